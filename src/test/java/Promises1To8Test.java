/** Promises 1 to 8: flakes, ones, airs, the pad. */
public final class Promises1To8Test {
    private static final Doc doc = new Doc();
    private static final String SIXTY = "say '" + "c".repeat(60) + "'\n";

    public static void main(String[] args) {
        newObject();
        flake();
        flakeRefused();
        melt();
        stand();
        air();
        say();
        wipe();
        fault();
        doc.end();
    }

    private static void newObject() {
        doc.promise(1);
        doc.says("no FLAKES", """
            told(1) = 0; told(5) = 0; behind(0..7, 0) = UNKNOWN; melt(0..7) = UNKNOWN; told(10..99) = OUTSIDE
            stands(0..5, 2) = 0; posted(0) = 0; posted(2) = 0; most(0..1) = 0; year(77, 99, 2) = 0
            """);
        doc.says("ONES in their PLACES", """
            told(100) = 0; told(110) = 1; told(120) = 2; told(130) = 3; told(140) = 4; told(150) = 5
            told(101) = 0; told(111) = 0; told(121) = 0; told(131) = 0; told(141) = 0; told(151) = 0
            """);
        doc.says("nothing on the PAD, no SIGHTS, no IMAGES, the first LAWS", """
            told(0) = 0; fault() = NONE; told(4) = 0; laws(-1) = 256; restore(0..1) = STATE; told(2) = 90; told(3) = 30
            wipe() = 0; forget() = 0
            """);
        doc.says("a new object is its own", TermsTest.FULL_DAY + """
            say 'cF'; image(0); image(1)
            keep; b.told(0) = 0; b.told(1) = 0; b.told(2) = 90; b.told(3) = 30; b.told(4) = 0; b.told(100) = 0; b.told(150) = 5
            b.told(141) = 0; b.restore(0..1) = STATE; b.laws(-1) = 256; b.fault() = NONE; b.keep
            b.flake(0, 1, 1, 1, 1) = 1; b.stand(0, 9) = 0; b.air(0, 1) = 90; b.say('x') = 1; b.seen(1, 1) = 1; b.image(1) = 1
            same; c.keep; c.told(1) = 0; c.told(100) = 0; restore(1) = 1; same; b.told(1) = 1; b.told(0) = 1
            """);
    }

    private static void flake() {
        doc.promise(2);
        doc.says("a FLAKE is there: how many are", """
            flake(0..7, 1, 2, 3, 4) = 1 2 3 4 5 6 7 8; told(1) = 255
            """, """
            flake(7, 1, 2, 3, 4) = 1; flake(0, 1, 2, 3, 4) = 2; flake(3, 1, 2, 0, 4) = 3; told(1) = 137
            """);
        doc.says("or anew: how many are", """
            flake(0..7, 1, 2, 3, 4); flake(0..7, 9, 8, 7, 5) = 8; told(1) = 255; melt(3) = 7; flake(3, 1, 2, 3, 4) = 8
            """);
        doc.says("how many are, those in the RIVER and DOWN too", """
            flake(0, 1, 0, 2, 0); flake(1, 1, 1, 1, 1); flake(2, 1, 9, 0, 1); pad '.<'; done(); flake(3, 1, 1, 1, 1) = 4
            """);
        doc.says("its ARM, PLACE, HEIGHT, whom it is FOR", """
            flake(3, 17, 14, 8, 4) = 1; told(40..44) = 17 14 8 4 NONE; behind(3, 0..3) = 17 14 8 NONE
            """);
        doc.says("the least numbers", "flake(0, 0, 0, 0, 0) = 1; told(10..14) = 0 0 0 0 NONE");
        doc.says("the greatest numbers", "flake(7, 255, 15, 9, 5) = 1; told(80..84) = 255 15 9 5 NONE");
        doc.says("above 0", """
            flake(0, 1, 0, 1, 0); flake(1, 1, 9, 9, 0); pad '.'; judge(0) = NONE; judge(2) = 1; most(1) = 2
            """);
        doc.says("or lying: with nobody, even where a ONE stands", """
            flake(0, 1, 0, 0, 0) = 1; told(14) = NONE; told(12) = 0; posted(0) = 0; stands(0, 2) = 0; judge(2) = 0
            """, """
            flake(0, 1, 10, 0, 0); patch(0) = 5; patch(1) = 11
            """);
        doc.says("anew: it was in the RIVER", """
            flake(0, 9, 0, 5, 3); pad '<'; done(); told(5) = 1
            flake(0, 8, 7, 6, 5) = 1; told(5) = 0; told(10..14) = 8 7 6 5 NONE; posted(2) = 0; pad '.'; judge(0) = NONE
            """);
        doc.says("anew: it was with a ONE", """
            flake(0, 9, 3, 1, 3); pad '.'; done(); posted(0) = 1
            flake(0, 8, 7, 6, 3) = 1; posted(0) = 0; stands(3, 2) = 0; told(10..14) = 8 7 6 3 NONE
            """, """
            flake(0, 9, 3, 1, 3); pad '.'; done()
            flake(0, 8, 3, 0, 3) = 1; told(14) = NONE; posted(0) = 0; stands(3, 2) = 0
            """);
        doc.says("anew: it lay, it was above 0", """
            flake(0, 9, 10, 0, 3); patch(0) = 5; flake(0, 9, 10, 1, 3) = 1; patch(0) = 10; most(1) = 0
            flake(0, 9, 5, 1, 3) = 1; most(1) = 1; flake(0, 9, 5, 0, 3) = 1; most(1) = 0; pad 'c'; judge(1) = 2
            """);
        doc.says("the others, the PAD and all else stay", TermsTest.FULL_DAY + """
            say 'cF>'; image(0); flake(5, 77, 7, 7, 1) = 5
            told(0) = 3; told(1) = 47; told(2) = 110; told(3) = 54; told(4) = 1; told(5) = 2
            told(10..14) = 24 2 0 2 2; told(20..24) = 7 NONE 0 5 NONE; told(30..34) = 9 13 8 0 NONE; told(40..44) = 1 9 0 4 NONE
            told(100) = 3; told(150) = 13; told(141) = 1
            """);
    }

    private static void flakeRefused() {
        doc.promise(2);
        doc.says("UNKNOWN: the number", """
            flake(-1, 0, 0, 0, 0) = UNKNOWN; flake(8, 0, 0, 0, 0) = UNKNOWN; flake(32, 0, 0, 0, 0) = UNKNOWN
            flake(LEAST, 0, 0, 0, 0) = UNKNOWN; flake(MOST, 0, 0, 0, 0) = UNKNOWN; told(1) = 0
            """);
        doc.says("UNKNOWN: whom it is FOR", """
            flake(0, 0, 0, 0, -1) = UNKNOWN; flake(0, 0, 0, 0, 6) = UNKNOWN; flake(0, 0, 0, 0, 7) = UNKNOWN
            flake(0, 0, 0, 0, LEAST) = UNKNOWN; flake(0, 0, 0, 0, MOST) = UNKNOWN; flake(0, 0, 0, 0, NONE) = UNKNOWN
            told(1) = 0
            """);
        doc.says("OUTSIDE: the ARM", """
            flake(0, -1, 0, 0, 0) = OUTSIDE; flake(0, 256, 0, 0, 0) = OUTSIDE; flake(0, LEAST, 0, 0, 0) = OUTSIDE
            flake(0, MOST, 0, 0, 0) = OUTSIDE; told(1) = 0
            """);
        doc.says("OUTSIDE: the PLACE", """
            flake(0, 0, -1, 0, 0) = OUTSIDE; flake(0, 0, 16, 0, 0) = OUTSIDE; flake(0, 0, LEAST, 0, 0) = OUTSIDE
            flake(0, 0, MOST, 0, 0) = OUTSIDE; flake(0, 0, NONE, 0, 0) = OUTSIDE; told(1) = 0
            """);
        doc.says("OUTSIDE: the HEIGHT", """
            flake(0, 0, 0, -1, 0) = OUTSIDE; flake(0, 0, 0, 10, 0) = OUTSIDE; flake(0, 0, 0, LEAST, 0) = OUTSIDE
            flake(0, 0, 0, MOST, 0) = OUTSIDE; told(1) = 0
            """);
        doc.says("refused anew: it stays as it was", """
            flake(0, 9, 8, 7, 5)
            keep; flake(0, 256, 1, 1, 1) = OUTSIDE; flake(0, 1, 16, 1, 1) = OUTSIDE; flake(0, 1, 1, 10, 1) = OUTSIDE
            flake(0, 1, 1, 1, 6) = UNKNOWN; same
            """);
    }

    private static void melt() {
        doc.promise(3);
        doc.says("a FLAKE is no more: how many are", """
            flake(0..7, 1, 2, 3, 4); melt(7) = 7; melt(0) = 6; melt(1..6) = 5 4 3 2 1 0; told(1) = 0
            """);
        doc.says("UNKNOWN: it was not", """
            melt(0..7) = UNKNOWN; flake(3, 1, 1, 1, 1); melt(2) = UNKNOWN; melt(4) = UNKNOWN; melt(3) = 0; melt(3) = UNKNOWN
            """);
        doc.says("UNKNOWN: there is no such number", """
            flake(0..7, 1, 1, 1, 1); melt(-1) = UNKNOWN; melt(8) = UNKNOWN; melt(32) = UNKNOWN; melt(-32) = UNKNOWN
            melt(LEAST) = UNKNOWN; melt(MOST) = UNKNOWN; told(1) = 255
            """);
        doc.says("no more: it is not told", """
            flake(0, 1, 2, 3, 4); flake(1, 5, 6, 7, 3)
            melt(0); told(10..14) = OUTSIDE; behind(0, 0..3) = UNKNOWN; told(20..24) = 5 6 7 3 NONE
            """);
        doc.says("no more: it does not fall", """
            flake(0, 1, 2, 3, 2); melt(0); pad '.'; judge(1) = 2; most(0..1) = 0; year(9, 99, 2) = 0; pad ''; posted(2) = 0
            """);
        doc.says("no more: it was with a ONE", """
            flake(0, 1, 2, 1, 2); flake(1, 1, 2, 1, 2); pad '.'; done(); posted(0) = 3; melt(0) = 1
            posted(0) = 2; stands(2, 2) = 2; year(2, 1, 0) = 1
            """);
        doc.says("no more: it lay", "flake(0, 1, 10, 0, 2); patch(0) = 5; melt(0) = 0; patch(0) = 10");
        doc.says("no more: it was in the RIVER", """
            flake(0, 1, 0, 1, 2); pad '<'; done(); told(5) = 1; melt(0) = 0; told(5) = 0; posted(2) = 0; year(2, 1, 1) = 0
            """);
        doc.says("the PAD and all else stay", TermsTest.FULL_DAY + """
            say 'cF>'; melt(2) = 3; told(0..5) = 3 11 110 54 1 2; told(10..14) = 24 2 0 2 2; told(20..24) = 7 NONE 0 5 NONE
            told(40..44) = 1 9 0 4 NONE; told(100) = 3; told(150) = 13; told(141) = 1; judge(0..1) = 0 2
            """);
    }

    private static void stand() {
        doc.promise(4);
        doc.says("PLACE of a ONE: where he was", """
            stand(0, 15) = 0; stand(0, 0) = 15; stand(0, 7) = 0; stand(0, 7) = 7; told(100) = 7
            stand(1..5, 15) = 1 2 3 4 5; stands(0..5, 0) = 7 15 15 15 15 15
            """);
        doc.says("whose UMBRELLA is not up then", """
            pad 'AuBu'; done(); stand(0, 9) = 0; told(101) = 0; told(111) = 1
            """);
        doc.says("whose UMBRELLA is not up then: his alone, of each ONE", """
            say 'AuBuCuDuEuFu'; done(); stand(5, 0); stands(0..5, 1) = 1 1 1 1 1 0; stand(2, 0); stands(0..5, 1) = 1 1 0 1 1 0
            stand(0, 0); stands(0..5, 1) = 0 1 0 1 1 0; stand(4, 0); stands(0..5, 1) = 0 1 0 1 0 0
            stand(1, 0); stand(3, 0); stands(0..5, 1) = 0
            """);
        doc.says("whose UMBRELLA is not up then, at the same PLACE too", "pad 'Au'; done(); stand(0, 0) = 0; told(101) = 0");
        doc.says("whose UMBRELLA is not up then: he gets FLAKES", """
            flake(0, 1, 9, 1, 0); pad 'Au'; done(); stand(0, 9); pad '.'; behind(0, 3) = 0; pad 'Au.'; behind(0, 3) = NONE
            """);
        doc.says("what is with him stays", """
            flake(0, 1, 2, 1, 2); flake(1, 1, 2, 1, 0); pad '.'; done(); stand(2, 9) = 2
            told(14) = 2; told(24) = 2; stands(2, 2) = 3; posted(0) = 1; patch(0) = 6; patch(1) = 10
            """);
        doc.says("UNKNOWN", """
            stand(-1, 0) = UNKNOWN; stand(6, 0) = UNKNOWN; stand(LEAST, 0) = UNKNOWN; stand(MOST, 0) = UNKNOWN
            stands(0..5, 0) = 0 1 2 3 4 5
            """);
        doc.says("OUTSIDE", """
            stand(0, -1) = OUTSIDE; stand(0, 16) = OUTSIDE; stand(0, LEAST) = OUTSIDE; stand(0, MOST) = OUTSIDE
            stands(0, 0) = 0
            """);
        doc.says("OUTSIDE: his UMBRELLA stays up", """
            pad 'Au'; done(); stand(0, 16) = OUTSIDE; stand(0, -1) = OUTSIDE; told(101) = 1
            """);
        doc.says("the PAD, FLAKES and other ONES stay", TermsTest.FULL_DAY + """
            say 'cF>'; stand(3, 7) = 3; told(0..5) = 3 15 110 54 1 2; told(30..34) = 9 13 8 0 NONE
            told(100) = 3; told(110) = 1; told(120) = 2; told(130) = 7; told(140) = 4; told(150) = 13; told(141) = 1
            """);
    }

    private static void air() {
        doc.promise(5);
        doc.says("LAW of an AIR (0 COLD, 1 DAMP): which it was", """
            air(0, 255) = 90; air(0, 0) = 255; air(0, 77) = 0; air(1, 255) = 30; air(1, 0) = 255; air(1, 78) = 0
            air(0, 77) = 77; told(2) = 77; told(3) = 78
            """);
        doc.says("OUTSIDE: the AIR", """
            air(-1, 0) = OUTSIDE; air(2, 0) = OUTSIDE; air(LEAST, 0) = OUTSIDE; air(MOST, 0) = OUTSIDE
            told(2) = 90; told(3) = 30
            """);
        doc.says("OUTSIDE: the LAW", """
            air(0, -1) = OUTSIDE; air(0, 256) = OUTSIDE; air(0, LEAST) = OUTSIDE; air(0, MOST) = OUTSIDE
            air(1, -1) = OUTSIDE; air(1, 256) = OUTSIDE; told(2) = 90; told(3) = 30
            """);
        doc.says("FLAKES grow by it from then on", """
            flake(0, 24, 0, 1, 0); pad 'c'; behind(0, 0) = 60; air(0, 240); behind(0, 0) = 12
            pad 'd'; air(1, 170); behind(0, 0) = 48; grew(24, 48, 1, 1) = 2; grew(24, 12, 1, 1) = 1; soon(24, 3) = 3
            """);
        doc.says("all else stays", TermsTest.FULL_DAY + """
            say 'cF>'; air(0, 1); air(1, 2); told(0..5) = 3 15 1 2 1 2; told(30..34) = 9 13 8 0 NONE; laws(-1) = 8
            """);
    }

    private static void say() {
        doc.promise(6);
        doc.says("a sign more: how many", "say('c') = 1; say('c') = 2; say('A') = 3; told(0) = 3");
        doc.says("codes 33 to 126", "say(33..92); wipe() = 60; say(93..126); told(0) = 34; wipe() = 34");
        doc.says("OUTSIDE: below the least", """
            say(32) = OUTSIDE; say(10) = OUTSIDE; say(0) = OUTSIDE; say(-1) = OUTSIDE; say(LEAST) = OUTSIDE; told(0) = 0
            """);
        doc.says("OUTSIDE: above the greatest", """
            say(127) = OUTSIDE; say(128) = OUTSIDE; say(256) = OUTSIDE; say(322) = OUTSIDE; say(65601) = OUTSIDE
            say(MOST) = OUTSIDE; told(0) = 0
            """);
        doc.says("the least and the greatest", "say(33) = 1; say(126) = 2");
        doc.says("up to 60 signs", SIXTY + "told(0) = 60; fault() = NONE", """
            say '01234567890123456789012345678901234567890123456789012345678'; told(0) = 59; say('c') = 60
            """);
        doc.says("FULL", SIXTY + "say('c') = FULL; say(33) = FULL; say(126) = FULL; told(0) = 60; fault() = NONE; wipe() = 60");
        doc.says("FULL, and room again", SIXTY + "say('c') = FULL; wipe() = 60; say('c') = 1");
        doc.says("all else stays", TermsTest.FULL_DAY + """
            say('x'); told(0..5) = 1 15 110 54 1 2; told(30..34) = 9 13 8 0 NONE; told(100) = 3; told(141) = 1
            """);
    }

    private static void wipe() {
        doc.promise(7);
        doc.says("signs go: how many there were", """
            say 'Au?'; wipe() = 3; told(0) = 0; fault() = NONE; say('u') = 1; fault() = 0
            """);
        doc.says("there were none", "wipe() = 0; say('c'); wipe() = 1; wipe() = 0");
        doc.says("the PAD was full", SIXTY + "wipe() = 60; told(0) = 0");
        doc.says("none of the signs comes back", "say 'A<'; wipe(); say 'Bu'; judge(0) = NONE; done() = 1; told(100) = 0");
        doc.says("all else stays", TermsTest.FULL_DAY + "keep; say 'Au'; wipe() = 2; same");
    }

    private static void fault() {
        doc.promise(8);
        StringBuilder first = new StringBuilder();
        StringBuilder second = new StringBuilder();
        StringBuilder third = new StringBuilder();
        for (int sign = 33; sign <= 126; sign++) {
            boolean weather = "cd<>.".indexOf(sign) >= 0;
            boolean one = "ABCDEF".indexOf(sign) >= 0;
            boolean deed = "<>u".indexOf(sign) >= 0;
            String said = "say(" + sign + "); fault() = ";
            first.append("wipe(); " + said + (weather ? "NONE" : one ? "1" : "0") + "\n");
            second.append("wipe(); say('F'); " + said + (deed ? "NONE" : "1") + "\n");
            third.append("wipe(); say 'Au'; " + said + (weather ? "NONE" : one ? "3" : "2") + "\n");
        }
        doc.says("the first sign that can not stand there, of each sign", first.toString());
        doc.says("the first sign that can not stand there, of each sign behind a ONE", second.toString());
        doc.says("the first sign that can not stand there, of each sign behind an ACT", third.toString());
        doc.says("each ONE has his ACTS", """
            say 'A<B>CuD<E>Fu'; fault() = NONE; pad 'AuBuCuDuEuFu'; fault() = NONE; pad 'A>B<C<D>E<F>'; fault() = NONE
            """);
        doc.says("the number of signs, if more must come", "pad 'F'; fault() = 1; pad 'cdE'; fault() = 3");
        doc.says("the number of signs, of a full PAD",
            "say '" + "c".repeat(59) + "A'; fault() = 60; judge(0) = NO; done() = NO");
        doc.says("the last sign of a full PAD",
            "say '" + "c".repeat(59) + "u'; fault() = 59",
            "say '" + "Fu".repeat(29) + "FA'; fault() = 59",
            "say '" + "Fu".repeat(30) + "'; fault() = NONE");
        doc.says("only the first FAULT is told", "say '?AAcu'; fault() = 0; pad 'cAcA'; fault() = 2; pad 'AAA'; fault() = 1");
        doc.says("NONE: an empty PAD", "fault() = NONE; say('?'); wipe(); fault() = NONE; say 'Au'; done(); fault() = NONE");
        doc.says("an ACT that can not be is no FAULT", "say 'A<cd<>.'; fault() = NONE");
        doc.says("a FAULT is told again", "say 'cA'; fault() = 2; fault() = 2; say('u'); fault() = NONE; fault() = NONE");
    }
}
