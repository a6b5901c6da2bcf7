/** Promises 19 to 28: laws, gusts, spoons, years, images. */
public final class Promises19To28Test {
    private static final Doc doc = new Doc();
    private static final String EIGHT_FLAKES = """
        flake(0, 1, 3, 9, 0); flake(1, 1, 4, 9, 1); flake(2, 1, 5, 9, 2); flake(3, 1, 6, 9, 3)
        flake(4, 1, 7, 9, 4); flake(5, 1, 8, 9, 5); flake(6, 1, 9, 9, 0); flake(7, 1, 10, 9, 1)
        """;

    public static void main(String[] args) {
        seen();
        forget();
        laws();
        look();
        gusts();
        gustsRefused();
        spoon();
        year();
        yearActs();
        yearRefused();
        image();
        restore();
        told();
        toldRefused();
        doc.end();
    }

    private static void seen() {
        doc.promise(19);
        doc.says("a SIGHT more: how many", "seen(24, 60) = 1; seen(0, 0) = 2; seen(255, 255) = 3; told(4) = 3; laws(-1) = 4");
        doc.says("8 at most", "seen(24..31, 60) = 1 2 3 4 5 6 7 8; told(4) = 8");
        doc.says("the same one again is a SIGHT more", "seen(24, 60) = 1; seen(24, 60) = 2; told(4) = 2; laws(-1) = 8");
        doc.says("OUTSIDE: ARMS", """
            seen(-1, 0) = OUTSIDE; seen(256, 0) = OUTSIDE; seen(0, -1) = OUTSIDE; seen(0, 256) = OUTSIDE
            seen(LEAST, 0) = OUTSIDE
            seen(MOST, 0) = OUTSIDE; seen(0, LEAST) = OUTSIDE; seen(0, MOST) = OUTSIDE; told(4) = 0; laws(-1) = 256
            """);
        String seven = "seen(24, 60);".repeat(7);
        String eight = seven + "seen(24, 60) = 8\n";
        doc.says("FULL", eight + """
            seen(24, 60) = FULL; seen(0, 255) = FULL; told(4) = 8; laws(-1) = 8; laws(0) = 90; forget() = 8
            """);
        doc.says("FULL, and room again", eight + """
            seen(0, 255) = FULL; forget() = 8; seen(0, 255) = 1; laws(-1) = 128; laws(0) = 1
            """);
        doc.says("the eighth counts", seven + """
            laws(-1) = 8; seen(0, 255) = 8; laws(-1) = 0
            """);
    }

    private static void forget() {
        doc.promise(20);
        doc.says("SIGHTS go: how many there were", """
            seen(24, 60); seen(0, 0); forget() = 2; told(4) = 0; laws(-1) = 256; laws(255) = 255; look(0) = 46
            """);
        doc.says("there were none", "forget() = 0; forget() = 0; seen(1, 1); forget() = 1; forget() = 0");
        doc.says("there were eight", """
            seen(0..7, 1); forget() = 8; told(4) = 0; laws(-1) = 256; seen(0..7, 1) = 1 2 3 4 5 6 7 8
            """);
        doc.says("some LAWS fit again, where none did", """
            seen(0, 0); seen(0, 255); laws(-1) = 0; look(0) = NONE; forget() = 2; laws(-1) = 256; seen(0, 255) = 1
            laws(-1) = 128
            """);
        doc.says("all else stays", TermsTest.FULL_DAY + """
            say 'cF>'; forget() = 1; told(0..5) = 3 15 110 54 0 2; told(30..34) = 9 13 8 0 NONE
            """);
    }

    private static void laws() {
        doc.promise(21);
        doc.says("no SIGHTS: all LAWS", """
            laws(-1) = 256; laws(0..3) = 0 1 2 3; laws(127..128) = 127 128; laws(254..255) = 254 255; laws(256) = NONE
            """);
        doc.says("how many (i = -1)", """
            seen(24, 60); laws(-1) = 8; seen(1, 2); laws(-1) = 4; seen(46, 75); laws(-1) = 1; laws(0) = 90
            seen(46, 74); laws(-1) = 0
            """);
        doc.says("the i-th (rising)", "seen(24, 60); laws(0..7) = 90 94 122 126 218 222 250 254");
        doc.says("all SIGHTS are so, the LAW the same all times", """
            seen(0, 0); laws(0..3) = 0 2 4 6; laws(127) = 254; seen(255, 255); laws(-1) = 16; laws(0) = 200
            seen(0, 255); laws(-1) = 0
            """);
        doc.says("one LAW fits", """
            seen(46, 77); laws(-1) = 1; laws(0) = 154; laws(1) = NONE
            """, """
            seen(46, 0); laws(0) = 0; laws(1) = NONE
            """, """
            seen(46, 255); laws(0) = 255; laws(1) = NONE
            """);
        doc.says("no LAW fits: a SIGHT that no LAW is so", """
            seen(0, 1); laws(-1) = 0; laws(0) = NONE; laws(255) = NONE
            """, """
            seen(255, 2); laws(-1) = 0
            """);
        doc.says("NONE: behind the last", "seen(24, 60); laws(8) = NONE; laws(9) = NONE; laws(256) = NONE; laws(MOST) = NONE");
        doc.says("NONE (i below -1, too)", """
            laws(-2) = NONE; laws(-3) = NONE; laws(NONE) = NONE; laws(LEAST) = NONE; seen(24, 60); laws(-2) = NONE
            """);
        doc.says("the LAWS of the AIRS are no matter", """
            air(0, 1); air(1, 2); laws(-1) = 256; laws(0) = 0; seen(24, 60); laws(0) = 90
            """);
    }

    private static void look() {
        doc.promise(22);
        doc.says("the ARM to look at next, so that fewest LAWS are left at the most: the least; how many", "look(0..1) = 46 1");
        doc.says("behind some SIGHTS", """
            seen(0, 0); look(0..1) = 46 1; seen(255, 255); look(0..1) = 10 1; seen(10, 0); look(0..1) = 0 1
            """, """
            seen(24, 60); look(0..1) = 23 1
            """);
        doc.says("nothing is left to learn: the least ARM there is", "seen(46, 77); look(0..1) = 0 1");
        doc.says("NONE: no LAW fits", "seen(0, 0); seen(0, 255); look(0..1) = NONE", "seen(0, 1); look(0..1) = NONE");
        doc.says("OUTSIDE", """
            look(-1) = OUTSIDE; look(2) = OUTSIDE; look(LEAST) = OUTSIDE; look(MOST) = OUTSIDE
            seen(0, 1); look(2) = OUTSIDE; look(-1) = OUTSIDE
            """);
        doc.says("it only tells", "seen(24, 60); keep; look(0..1); laws(-1..8); same");
    }

    private static void gusts() {
        doc.promise(23);
        doc.says("h 0: it is where it was", """
            gusts(5, 0, 3, 3, 5, 0..1) = 1 1; gusts(5, 0, 3, 3, 4, 0..1) = 0 1; gusts(5, 0, 3, 3, 6, 0..1) = 0 1
            gusts(0, 0, 10, 0, -1, 0..1) = 0 1; gusts(15, 0, 0, 10, 15, 0..1) = 1 1
            """);
        doc.says("west with a tenths, east with b tenths, else stays", """
            gusts(5, 1, 2, 3, 4, 0..1) = 1 5; gusts(5, 1, 2, 3, 6, 0..1) = 3 10; gusts(5, 1, 2, 3, 5, 0..1) = 1 2
            gusts(5, 1, 2, 3, 7, 0..1) = 0 1; gusts(5, 1, 2, 3, 3, 0..1) = 0 1
            """);
        doc.says("ahead of each HEIGHT", """
            gusts(5, 2, 1, 1, 5, 0..1) = 33 50; gusts(5, 2, 1, 3, 3, 0..1) = 1 100; gusts(5, 2, 1, 3, 7, 0..1) = 9 100
            gusts(5, 2, 1, 3, 6, 0..1) = 9 25
            """);
        doc.says("a and b 0: it always stays", """
            gusts(8, 6, 0, 0, 8, 0..1) = 1 1; gusts(8, 6, 0, 0, 7, 0..1) = 0 1; gusts(0, 6, 0, 0, -1, 0..1) = 0 1
            """);
        doc.says("a or b 10: it always goes", """
            gusts(8, 6, 10, 0, 2, 0..1) = 1 1; gusts(8, 6, 0, 10, 14, 0..1) = 1 1; gusts(8, 6, 10, 0, 8, 0..1) = 0 1
            gusts(15, 6, 10, 0, 9, 0..1) = 1 1; gusts(5, 6, 10, 0, -1, 0..1) = 1 1; gusts(6, 6, 10, 0, 0, 0..1) = 1 1
            """);
        doc.says("no more than 10 together: 10", """
            gusts(5, 1, 4, 6, 5, 0..1) = 0 1; gusts(5, 1, 4, 6, 4, 0..1) = 2 5; gusts(5, 1, 4, 6, 6, 0..1) = 3 5
            gusts(5, 2, 4, 6, 5, 0..1) = 12 25
            """);
        doc.says("off the row it is gone: in the west, in the east", """
            gusts(0, 1, 4, 3, -1, 0..1) = 2 5; gusts(15, 1, 4, 3, -1, 0..1) = 3 10; gusts(1, 1, 4, 3, -1, 0..1) = 0 1
            gusts(14, 1, 4, 3, -1, 0..1) = 0 1; gusts(0, 1, 4, 3, 0, 0..1) = 3 10; gusts(15, 1, 4, 3, 15, 0..1) = 3 10
            """);
        doc.says("what is gone does not come back", """
            gusts(0, 2, 5, 5, 0, 0..1) = 1 4; gusts(0, 2, 5, 5, -1, 0..1) = 1 2; gusts(0, 3, 5, 5, -1, 0..1) = 5 8
            gusts(15, 2, 5, 5, 15, 0..1) = 1 4; gusts(15, 3, 5, 5, -1, 0..1) = 5 8; gusts(0, 2, 10, 0, -1, 0..1) = 1 1
            gusts(0, 2, 10, 0, 15, 0) = 0
            """);
        doc.says("exactly: the least chance", """
            gusts(8, 6, 1, 0, 2, 0..1) = 1 1000000; gusts(8, 6, 0, 1, 14, 0..1) = 1 1000000
            gusts(0, 6, 3, 3, -1, 0..1) = 153783 250000; gusts(8, 6, 9, 1, 2, 0..1) = 531441 1000000
            """);
        doc.says("in lowest terms", """
            gusts(8, 6, 5, 5, 8, 0..1) = 5 16; gusts(8, 6, 2, 0, 2, 0..1) = 1 15625; gusts(8, 6, 5, 0, 2, 0..1) = 1 64
            gusts(8, 6, 4, 4, 2, 0..1) = 64 15625; gusts(8, 1, 5, 5, 9, 0..1) = 1 2
            """);
    }

    private static void gustsRefused() {
        doc.promise(23);
        doc.says("OUTSIDE: from", """
            gusts(-1, 0, 0, 0, 0, 0) = GONE_OUTSIDE; gusts(16, 0, 0, 0, 0, 0) = GONE_OUTSIDE
            gusts(LEAST, 0, 0, 0, 0, 0) = GONE_OUTSIDE; gusts(MOST, 0, 0, 0, 0, 0) = GONE_OUTSIDE
            """);
        doc.says("OUTSIDE: h", """
            gusts(0, -1, 0, 0, 0, 0) = GONE_OUTSIDE; gusts(0, 7, 0, 0, 0, 0) = GONE_OUTSIDE
            gusts(0, LEAST, 0, 0, 0, 0) = GONE_OUTSIDE; gusts(0, MOST, 0, 0, 0, 0) = GONE_OUTSIDE
            """);
        doc.says("OUTSIDE: a", """
            gusts(0, 0, -1, 0, 0, 0) = GONE_OUTSIDE; gusts(0, 0, 11, 0, 0, 0) = GONE_OUTSIDE
            gusts(0, 0, -1, 1, 0, 0) = GONE_OUTSIDE; gusts(0, 0, LEAST, 0, 0, 0) = GONE_OUTSIDE
            gusts(0, 0, MOST, 0, 0, 0) = GONE_OUTSIDE
            """);
        doc.says("OUTSIDE: b", """
            gusts(0, 0, 0, -1, 0, 0) = GONE_OUTSIDE; gusts(0, 0, 0, 11, 0, 0) = GONE_OUTSIDE
            gusts(0, 0, 1, -1, 0, 0) = GONE_OUTSIDE; gusts(0, 0, 0, LEAST, 0, 0) = GONE_OUTSIDE
            gusts(0, 0, 0, MOST, 0, 0) = GONE_OUTSIDE
            """);
        doc.says("OUTSIDE: both together", """
            gusts(0, 0, 6, 5, 0, 0) = GONE_OUTSIDE; gusts(0, 0, 10, 1, 0, 0) = GONE_OUTSIDE
            gusts(0, 0, 1, 10, 0, 0) = GONE_OUTSIDE; gusts(0, 0, 10, 10, 0, 0) = GONE_OUTSIDE
            gusts(0, 0, MOST, MOST, 0, 0) = GONE_OUTSIDE
            """);
        doc.says("OUTSIDE: to", """
            gusts(0, 0, 0, 0, -2, 0) = GONE_OUTSIDE; gusts(0, 0, 0, 0, 16, 0) = GONE_OUTSIDE
            gusts(0, 0, 0, 0, LEAST, 0) = GONE_OUTSIDE; gusts(0, 0, 0, 0, MOST, 0) = GONE_OUTSIDE
            gusts(0, 0, 0, 0, NONE, 0) = GONE_OUTSIDE
            """);
        doc.says("OUTSIDE: part", """
            gusts(0, 0, 0, 0, 0, -1) = GONE_OUTSIDE; gusts(0, 0, 0, 0, 0, 2) = GONE_OUTSIDE
            gusts(0, 0, 0, 0, 0, LEAST) = GONE_OUTSIDE; gusts(0, 0, 0, 0, 0, MOST) = GONE_OUTSIDE
            """);
        doc.says("the ends of what is inside", """
            gusts(0, 6, 10, 0, -1, 0) = 1; gusts(15, 6, 0, 10, -1, 1) = 1; gusts(15, 0, 0, 0, 15, 0) = 1
            gusts(0, 0, 10, 0, 0, 1) = 1; gusts(9, 6, 0, 10, 15, 0) = 1
            """);
    }

    private static void spoon() {
        doc.promise(24);
        doc.says("n 0: who can not has lost", "spoon(0, 0) = 0; spoon(0, 1) = NONE");
        doc.says("1, 2 or 3: all at once", "spoon(1..3, 0) = 1; spoon(1, 1) = 1; spoon(3, 1) = 3");
        doc.says("but never as many as the other one just took", "spoon(2, 0) = 1; spoon(2, 1) = 1; spoon(6, 1) = 1");
        doc.says("whether who begins can win", """
            spoon(4, 0) = 0; spoon(5..7, 0) = 1; spoon(8, 0) = 0; spoon(9..11, 0) = 1; spoon(12, 0) = 0
            """);
        doc.says("how many he takes first for it, the least", """
            spoon(5..7, 1) = 1 1 3; spoon(9..11, 1) = 1 1 3; spoon(57..59, 1) = 1 1 3
            """);
        doc.says("how many (NONE)", "spoon(4, 1) = NONE; spoon(8, 1) = NONE; spoon(60, 1) = NONE; spoon(60, 0) = 0");
        doc.says("OUTSIDE", """
            spoon(-1, 0) = OUTSIDE; spoon(61, 0) = OUTSIDE; spoon(-1, 1) = OUTSIDE; spoon(61, 1) = OUTSIDE
            spoon(LEAST, 0) = OUTSIDE
            spoon(MOST, 0) = OUTSIDE; spoon(5, -1) = OUTSIDE; spoon(5, 2) = OUTSIDE; spoon(5, LEAST) = OUTSIDE
            spoon(5, MOST) = OUTSIDE
            spoon(0, 2) = OUTSIDE; spoon(60, -1) = OUTSIDE
            """);
    }

    /** By seeds: 0 a wind west, 3 east, 6 they fall, 2 COLD, 5 DAMP; 48 west and they fall; 30 they fall twice. */
    private static void year() {
        doc.promise(25);
        doc.says("of no FLAKES", "year(0, 1, 0..2) = 0; year(9999, 99, 0..2) = 0");
        doc.says("FLAKES that are with whom they are FOR", """
            flake(0, 1, 0, 1, 0); flake(1, 1, 1, 2, 1); flake(2, 1, 2, 2, 3); year(6, 1, 0) = 1; year(30, 2, 0) = 2
            """);
        doc.says("FLAKES in the RIVER", """
            flake(0, 1, 0, 1, 0); flake(1, 1, 15, 2, 1); flake(2, 1, 0, 9, 3); year(0, 1, 1) = 2; year(3, 1, 1) = 1
            year(6, 1, 1) = 0
            """);
        doc.says("how many are above 0", """
            flake(0, 1, 0, 1, 0); flake(1, 1, 15, 2, 1); flake(2, 1, 0, 9, 3); year(2, 1, 2) = 3; year(6, 1, 2) = 2
            year(30, 2, 2) = 1; year(0, 1, 2) = 1; year(48, 2, 2) = 1
            """);
        doc.says("from all as it is: what is DOWN, in the RIVER, or with somebody", """
            flake(0, 1, 0, 1, 0); flake(1, 1, 9, 1, 1); flake(2, 1, 15, 9, 3); flake(3, 1, 3, 1, 4); say '.>'; done()
            year(6, 1, 0..2) = 1 1 0; year(9999, 99, 0..2) = 1 1 0
            """);
        doc.says("from all as it is: UMBRELLAS, PLACES", """
            flake(0, 1, 0, 1, 0); year(6, 1, 0) = 1; say 'Au'; done(); year(6, 1, 0) = 0
            stand(0, 1); year(6, 1, 0) = 0; stand(0, 0); year(6, 1, 0) = 1
            """);
        doc.says("nothing is DONE in fact", TermsTest.FULL_DAY + """
            say 'cF>'; keep; year(6, 99, 0); year(0, 99, 1); year(3, 99, 2); same
            """);
        doc.says("the PAD is no matter", """
            flake(0, 1, 0, 1, 0); say '<?'; year(6, 1, 0..2) = 1 0 0; pad 'A<'; year(6, 1, 0) = 1
            pad '<'; year(6, 1, 0) = 1; told(0) = 1; judge(0) = NONE
            """);
        doc.says("a YEAR again is the same", """
            flake(0, 1, 0, 1, 0); year(6, 1, 0) = 1; year(6, 1, 0) = 1; year(0, 1, 1) = 1; year(6, 1, 0..2) = 1 0 0
            """);
    }

    private static void yearActs() {
        doc.promise(25);
        doc.says("0 COLD, 1 DAMP: nothing falls, nothing is blown", """
            flake(0, 1, 0, 1, 0); flake(1, 1, 15, 1, 0); year(2, 1, 0..2) = 0 0 2; year(5, 1, 0..2) = 0 0 2
            """);
        doc.says("2 a wind west, 3 east", """
            flake(0, 1, 0, 1, 0); flake(1, 1, 15, 1, 0); flake(2, 1, 15, 1, 0); year(0, 1, 1) = 1; year(3, 1, 1) = 2
            """);
        doc.says("4 they fall", "flake(0, 1, 1, 1, 1); year(6, 1, 0..2) = 1 0 0");
        doc.says("5 ONE x by 8 (cut) left over by 6 goes west", """
            stand(0, 9); flake(0, 1, 0, 1, 1); year(1807, 1, 2) = 1; year(1807, 2, 0) = 1
            """, """
            stand(3, 9); flake(0, 1, 3, 1, 4); year(1815, 2, 0) = 1
            """, """
            flake(0, 1, 4, 1, 5); stand(4, 9); year(940, 2, 0) = 1
            """);
        doc.says("6 ONE x by 8 (cut) left over by 6 goes east", """
            flake(0, 1, 1, 1, 0); year(967, 2, 0) = 1
            """, """
            flake(0, 1, 3, 1, 2); year(1754, 2, 0) = 1
            """, """
            flake(0, 1, 6, 1, 5); year(1842, 2, 0) = 1
            """);
        doc.says("7 his UMBRELLA", """
            flake(0, 1, 0, 1, 0); year(30, 2, 0) = 1; year(1789, 2, 0) = 0; say 'Au'; done(); year(1789, 2, 0) = 1
            """, """
            flake(0, 1, 5, 1, 5); year(223, 2, 0) = 0; year(39, 2, 0) = 1
            """, """
            flake(0, 1, 2, 1, 2); year(39, 2, 0) = 0; year(223, 2, 0) = 1
            """);
        doc.says("each if that can be: into the river nobody steps", """
            flake(0, 1, 0, 1, 0); year(65, 1, 2) = 1; year(65, 2, 0) = 1
            """, """
            stand(3, 15); flake(0, 1, 15, 1, 3); year(879, 1, 2) = 1; year(879, 2, 0) = 1
            """);
        doc.says("each if that can be: when nothing falls any more, ONES go on", """
            flake(0, 1, 0, 1, 0); year(30, 99, 0..2) = 1 0 0
            """);
        doc.says("x becomes (75 x and 74) left over by 65537", """
            flake(0, 1, 0, 1, 0); year(873, 1, 0) = 1; year(9999, 1, 0) = 1; year(872, 1, 1) = 1
            year(874, 1, 0..2) = 0 0 1
            """);
        doc.says("m ACTS: the last of 99", EIGHT_FLAKES + """
            year(130, 98, 2) = 8; year(130, 99, 2) = 0; year(659, 98, 0) = 0; year(659, 99, 0) = 1
            year(883, 98, 1) = 6; year(883, 99, 1) = 7
            """);
        doc.says("m ACTS: one", """
            flake(0, 1, 0, 2, 0); year(30, 1, 2) = 1; year(30, 1, 0) = 0; year(30, 2, 2) = 0; year(30, 2, 0) = 1
            """);
    }

    private static void yearRefused() {
        doc.promise(25);
        doc.says("OUTSIDE: the seed", """
            year(-1, 1, 0) = OUTSIDE; year(10000, 1, 0) = OUTSIDE; year(LEAST, 1, 0) = OUTSIDE
            year(MOST, 1, 0) = OUTSIDE; year(0, 1, 0) = 0; year(9999, 1, 0) = 0
            """);
        doc.says("OUTSIDE: m", """
            year(0, 0, 0) = OUTSIDE; year(0, 100, 0) = OUTSIDE; year(0, -1, 0) = OUTSIDE; year(0, LEAST, 0) = OUTSIDE
            year(0, MOST, 0) = OUTSIDE; year(0, 99, 0) = 0
            """);
        doc.says("OUTSIDE: what", """
            year(0, 1, -1) = OUTSIDE; year(0, 1, 3) = OUTSIDE; year(0, 1, LEAST) = OUTSIDE; year(0, 1, MOST) = OUTSIDE
            year(0, 1, 2) = 0
            """);
    }

    private static void image() {
        doc.promise(26);
        doc.says("all is kept in an IMAGE: 1", TermsTest.FULL_DAY + """
            keep; image(0) = 1; melt(0); melt(3); flake(1, 1, 1, 1, 1); flake(2, 2, 2, 2, 2); flake(7, 3, 3, 3, 3)
            stand(0..5, 12)
            air(0, 1); air(1, 2); seen(1, 1); seen(0, 255); restore(0) = 1; same
            """);
        doc.says("but the PAD", """
            say 'Au'; image(0) = 1; wipe(); restore(0); told(0) = 0; say 'cA'; restore(0); told(0) = 2; fault() = 2
            wipe() = 2
            """);
        doc.says("an IMAGE changes nothing", TermsTest.FULL_DAY + "say 'cF>'; keep; image(0) = 1; same; image(1) = 1; same");
        doc.says("an IMAGE (0, 1): each its own", """
            air(0, 11); image(0) = 1; air(0, 12); image(1) = 1; air(0, 13); restore(0) = 1; told(2) = 11
            restore(1) = 1; told(2) = 12
            restore(0) = 1; told(2) = 11
            """);
        doc.says("each its own: FLAKES, ONES and SIGHTS", """
            flake(0, 1, 2, 3, 4); stand(0, 9); seen(24, 60); image(1); flake(0, 5, 6, 7, 3); stand(0, 8); seen(0, 0); image(0)
            restore(1); told(10..14) = 1 2 3 4 NONE; told(100) = 9; told(4) = 1; laws(-1) = 8
            restore(0); told(10..14) = 5 6 7 3 NONE; told(100) = 8; told(4) = 2; laws(-1) = 8
            """);
        doc.says("kept anew", "air(0, 11); image(0) = 1; air(0, 12); image(0) = 1; air(0, 13); restore(0) = 1; told(2) = 12");
        doc.says("of a new object", """
            image(1) = 1; flake(0, 1, 1, 1, 1); stand(5, 9); air(1, 3); seen(1, 1); restore(1) = 1
            told(0..5) = 0 0 90 30 0 0; told(150) = 5; laws(-1) = 256; forget() = 0
            """);
        doc.says("OUTSIDE", """
            image(-1) = OUTSIDE; image(2) = OUTSIDE; image(LEAST) = OUTSIDE; image(MOST) = OUTSIDE
            restore(0..1) = STATE
            """);
    }

    private static void restore() {
        doc.promise(27);
        doc.says("it is as it was when it was kept: 1", TermsTest.FULL_DAY + """
            image(1) = 1; keep; say 'F<F<D<EuA<c<.'; done() = 8; restore(1) = 1; same
            """);
        doc.says("again, and again", """
            image(0); air(0, 1); restore(0) = 1; told(2) = 90; air(0, 2); flake(0, 1, 1, 1, 1); restore(0) = 1
            told(2) = 90; told(1) = 0; restore(0) = 1
            """);
        doc.says("what is changed behind it leaves the IMAGE as it is", """
            flake(0, 24, 2, 2, 2); image(0); restore(0); say 'c.C>'; done(); stand(1, 9); melt(0); restore(0)
            told(10..14) = 24 2 2 2 NONE
            told(110) = 1; told(120) = 2
            """);
        doc.says("FLAKES that were not there then are no more, others are again", """
            flake(0, 1, 1, 1, 1); image(0); melt(0); flake(5, 1, 1, 1, 1); restore(0); told(1) = 1; melt(5) = UNKNOWN
            flake(7, 1, 1, 1, 1) = 2
            """);
        doc.says("who has which, the RIVER, UMBRELLAS", """
            flake(0, 1, 1, 1, 1); flake(1, 1, 0, 2, 1); say '.<Bu'; done(); image(1); flake(0, 1, 1, 1, 1)
            flake(1, 1, 1, 1, 1)
            stand(1, 1); restore(1); told(14) = 1; told(5) = 2; told(111) = 1; posted(0) = 1; stands(1, 2) = 1
            """);
        doc.says("SIGHTS", """
            seen(24, 60); image(0); forget(); restore(0); told(4) = 1; laws(-1) = 8; seen(24, 60) = 2; restore(0)
            told(4) = 1; forget() = 1
            """);
        doc.says("SIGHTS: eight of them, and none", """
            image(0); seen(0..7, 1); image(1); restore(0); told(4) = 0; laws(-1) = 256; restore(1); told(4) = 8
            seen(1, 1) = FULL; restore(0); seen(1, 1) = 1
            """);
        doc.says("the PAD stays", """
            image(0); say 'Bu'; flake(0, 1, 1, 1, 1); restore(0) = 1; told(0) = 2; done() = 1; told(111) = 1
            """);
        doc.says("the other IMAGE stays", """
            air(0, 1); image(0); air(0, 2); image(1); restore(0); told(2) = 1; restore(1); told(2) = 2
            """);
        doc.says("OUTSIDE", """
            image(0); image(1); restore(-1) = OUTSIDE; restore(2) = OUTSIDE; restore(LEAST) = OUTSIDE
            restore(MOST) = OUTSIDE
            """);
        doc.says("STATE: it was not", """
            restore(0..1) = STATE; image(0); restore(1) = STATE; restore(0) = 1
            """, """
            image(1); restore(0) = STATE; restore(1) = 1; restore(0) = STATE
            """);
    }

    private static void told() {
        doc.promise(28);
        doc.says("0 signs",
            "told(0) = 0; say 'Au?'; told(0) = 3; wipe(); told(0) = 0; say '" + "c".repeat(60) + "'; told(0) = 60");
        doc.says("1 FLAKES (bits)", """
            told(1) = 0; flake(0, 1, 1, 1, 1); told(1) = 1; flake(7, 1, 1, 0, 1); told(1) = 129
            melt(0); told(1) = 128; flake(0..7, 1, 1, 1, 1); told(1) = 255
            """);
        doc.says("2 COLD, 3 DAMP", """
            told(2..3) = 90 30; air(0, 0); air(1, 255); told(2..3) = 0 255; air(0, 255); air(1, 0); told(2..3) = 255 0
            """);
        doc.says("4 SIGHTS", "told(4) = 0; seen(1, 1); told(4) = 1; seen(0..6, 1); told(4) = 8; forget(); told(4) = 0");
        doc.says("5 FLAKES in the RIVER (bits)", """
            told(5) = 0; flake(0, 1, 0, 1, 1); flake(7, 1, 15, 1, 1); flake(3, 1, 9, 9, 1); say '<'; told(5) = 0
            done(); told(5) = 1; say '>>'; done(); told(5) = 129
            """);
        doc.says("10 times (1 and a FLAKE that is there) and 0 ARM, 1 PLACE, 2 HEIGHT, 3 whom it is FOR, 4 with whom", """
            flake(0, 24, 2, 3, 5); flake(7, 255, 15, 9, 0)
            flake(4, 7, 8, 0, 1); told(10..14) = 24 2 3 5 NONE; told(80..84) = 255 15 9 0 NONE; told(50..54) = 7 8 0 1 NONE
            """);
        doc.says("1 PLACE (NONE), 2 HEIGHT in the RIVER", """
            flake(7, 9, 15, 9, 0); say '>'; told(81) = 15; done(); told(80..84) = 9 NONE 0 0 NONE
            """);
        doc.says("4 with whom (NONE)", """
            flake(0, 1, 0, 1, 5); flake(1, 1, 5, 1, 0); flake(2, 1, 9, 1, 0); say '.'; told(14) = NONE; done()
            told(14) = 0; told(24) = 5; told(34) = NONE; told(13) = 5
            """);
        doc.says("100 and 10 times a ONE and 0 PLACE, 1 UMBRELLA (1, 0)", """
            stand(0, 15); stand(5, 0); say 'AuCuFu'; told(101) = 0; done(); told(100) = 15; told(101) = 1
            told(110) = 1; told(111) = 0
            told(120) = 2; told(121) = 1; told(130) = 3; told(131) = 0; told(140) = 4; told(141) = 0; told(150) = 0
            told(151) = 1
            """);
        doc.says("as it is, not as the PAD says", """
            flake(0, 24, 2, 1, 2); say 'c<.A>Au'; told(10..14) = 24 2 1 2 NONE; told(100..101) = 0 0; told(5) = 0
            """);
        doc.says("it only tells", TermsTest.FULL_DAY + "say 'cF>'; keep; told(-5..170); same");
    }

    private static void toldRefused() {
        doc.promise(28);
        doc.says("OUTSIDE: below 0, between 5 and 10", """
            told(-1) = OUTSIDE; told(-10) = OUTSIDE; told(NONE) = OUTSIDE; told(LEAST) = OUTSIDE; told(6..9) = OUTSIDE
            told(-99..-1) = OUTSIDE
            """);
        doc.says("OUTSIDE: a FLAKE that is not there", """
            told(10..14) = OUTSIDE; told(80..84) = OUTSIDE; flake(3, 1, 1, 1, 1); told(30..34) = OUTSIDE
            told(50..54) = OUTSIDE; told(40..44) = 1 1 1 1 NONE; melt(3); told(40..44) = OUTSIDE
            """);
        doc.says("OUTSIDE: more than is told of a FLAKE", """
            flake(0..7, 1, 1, 1, 1); told(15..19) = OUTSIDE; told(25..29) = OUTSIDE; told(75..79) = OUTSIDE
            told(85..89) = OUTSIDE
            """);
        doc.says("OUTSIDE: a FLAKE above 7", "flake(0..7, 1, 1, 1, 1); told(90..99) = OUTSIDE");
        doc.says("OUTSIDE: more than is told of a ONE", """
            told(102..109) = OUTSIDE; told(112..119) = OUTSIDE; told(152..159) = OUTSIDE
            """);
        doc.says("OUTSIDE: a ONE above 5", """
            told(160..199) = OUTSIDE; told(200) = OUTSIDE; told(1000) = OUTSIDE; told(MOST) = OUTSIDE
            told(65536) = OUTSIDE; told(256) = OUTSIDE
            """);
    }
}
