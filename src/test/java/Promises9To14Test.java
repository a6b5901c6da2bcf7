/** Promises 9 to 14: days. */
public final class Promises9To14Test {
    private static final Doc doc = new Doc();

    public static void main(String[] args) {
        judge();
        judgeDown();
        judgeRefused();
        behind();
        behindRefused();
        stands();
        posted();
        postedRefused();
        done();
        doneRefused();
        says();
        doc.end();
    }

    private static void judge() {
        doc.promise(9);
        doc.says("NONE: no ACTS", "judge(0) = NONE; judge(1) = NONE; judge(2) = 0");
        doc.says("NONE: all ACTS can be", """
            flake(0, 1, 1, 2, 1); say 'cd<>Au..'; judge(0) = NONE; judge(1) = NONE; judge(2) = 1
            """);
        doc.says("the first ACT (from 0 on) that can not be", """
            pad 'A<'; judge(0) = 0; pad 'AuA<'; judge(0) = 1; pad 'AuA<A<c'; judge(0) = 1; pad 'BuCuDuc'; judge(0) = 3
            flake(0, 1, 1, 1, 1); pad 'c.cA<'; judge(0) = 2; judge(1) = 2; pad 'c.A<c'; judge(0) = 2; judge(1) = 1
            """);
        doc.says("the first ACT that can not be, the last one of a full PAD",
            "say '" + "Au".repeat(29) + "A<'; judge(0) = 29; judge(1) = 1",
            "flake(0, 1, 15, 1, 1); say '" + "c".repeat(58) + ">d'; judge(0) = 59; judge(1) = 2",
            "flake(0, 1, 15, 1, 1); say '" + "c".repeat(59) + ">'; judge(0) = NONE; judge(1) = NONE");
        doc.says("what a step does counts for the next one", """
            say 'A>A<A<'; judge(0) = 2; judge(1) = 1; stand(1, 14); pad 'B>B>'; judge(0) = 1; pad 'B>B<B>B<B<'; judge(0) = NONE
            """);
        doc.says("what falls, or is blown off, counts for the next ACT", """
            flake(0, 1, 1, 2, 1); pad '...'; judge(0) = 2; pad '<<c'; judge(0) = 2; pad '<.<.'; judge(0) = 3
            pad '<<Auc'; judge(0) = 3
            """);
        doc.says("why: the reason of the first one, not of a later one", """
            pad 'A<.'; judge(1) = 1; pad '.A<'; judge(1) = 2; judge(0) = 0
            """);
        doc.says("why: each of those ACTS", """
            pad 'Auc'; judge(0) = 1; judge(1) = 2; pad 'Aud'; judge(0) = 1; judge(1) = 2; pad 'Au<'; judge(0) = 1; judge(1) = 2
            pad 'Au>'; judge(0) = 1; judge(1) = 2; pad 'Au.'; judge(0) = 1; judge(1) = 2
            """, """
            flake(0, 1, 8, 0, 0); flake(1, 1, 15, 1, 1); pad '>'; done(); pad 'd'; judge(1) = 2; pad '<'; judge(1) = 2
            """);
        doc.says("it only tells", "flake(0, 1, 1, 1, 1); say '.A>Bu'; keep; judge(0..2) = NONE NONE 1; same; judge(2) = 1");
    }

    private static void judgeDown() {
        doc.promise(9);
        doc.says("how many FLAKES came DOWN", """
            flake(0..7, 1, 9, 1, 0); judge(2) = 0; pad 'c'; judge(2) = 0; pad '.'; judge(2) = 8
            """, """
            flake(0, 1, 0, 1, 0); flake(1, 1, 9, 1, 0); flake(2, 1, 4, 2, 0); flake(3, 1, 4, 9, 0)
            pad '.'; judge(2) = 2; pad '..'; judge(2) = 3; pad '........'; judge(2) = 3; pad '.........'; judge(2) = 4
            """);
        doc.says("DOWN: with a ONE or lying", """
            flake(0, 1, 1, 1, 1); flake(1, 1, 9, 1, 1); say '.'; judge(2) = 2; pad 'Bu.'; judge(2) = 2
            """);
        doc.says("DOWN: not what went into the RIVER", """
            flake(0, 1, 0, 1, 1); flake(1, 1, 9, 1, 1); say '<'; judge(2) = 0; say('.'); judge(2) = 1
            """);
        doc.says("DOWN: not what was DOWN ahead of the PAD", """
            flake(0, 1, 9, 0, 1); flake(1, 1, 9, 1, 1); judge(2) = 0; pad '.'; judge(2) = 1; done(); judge(2) = 0
            pad 'Au'; judge(2) = 0
            """);
    }

    private static void judgeRefused() {
        doc.promise(9);
        doc.says("OUTSIDE", """
            judge(-1) = OUTSIDE; judge(3) = OUTSIDE; judge(LEAST) = OUTSIDE; judge(MOST) = OUTSIDE
            judge(NONE) = OUTSIDE
            """);
        doc.says("NO: there is a FAULT", """
            say('A'); judge(0..2) = NO; say('c'); judge(0..2) = NO; pad 'cu'; judge(0..2) = NO
            pad '?'; judge(0..2) = NO
            """);
        doc.says("NO: behind an ACT that can not be, too", "say 'A<A'; judge(0..2) = NO; pad 'A<c?'; judge(0..2) = NO");
        doc.says("STATE (2): some ACT can not be", """
            say 'A<'; judge(0..2) = 0 1 STATE; flake(0, 1, 1, 1, 1); pad '.A<'; judge(0..2) = 1 1 STATE
            pad '..'; judge(2) = STATE
            """);
    }

    private static void behind() {
        doc.promise(10);
        doc.says("of no ACTS: as it is", "flake(3, 24, 7, 2, 5); behind(3, 0..3) = 24 7 2 NONE");
        doc.says("ARM", """
            flake(0, 24, 7, 2, 5); say 'c'; behind(0, 0) = 60; say('c'); behind(0, 0) = 102
            pad 'd'; behind(0, 0) = 52
            """);
        doc.says("PLACE", """
            flake(0, 24, 7, 2, 5); say '<'; behind(0, 1) = 6; pad '>>'; behind(0, 1) = 9
            say '..<'; behind(0, 1) = STATE
            """);
        doc.says("PLACE (NONE: the RIVER)", """
            flake(0, 24, 1, 2, 5); flake(1, 24, 14, 2, 5)
            pad '<'; behind(0..1, 1) = 0 13; pad '<<'; behind(0..1, 1) = NONE 12; pad '>>'; behind(0..1, 1) = 3 NONE
            """);
        doc.says("HEIGHT", """
            flake(0, 24, 7, 3, 5); say '.'; behind(0, 2) = 2; say('.'); behind(0, 2) = 1; say('.'); behind(0, 2) = 0
            """);
        doc.says("HEIGHT (0 in the RIVER, too)", """
            flake(0, 24, 0, 9, 5); flake(1, 24, 15, 9, 5); pad '<'; behind(0..1, 2) = 0 9; pad '>'; behind(0..1, 2) = 9 0
            """);
        doc.says("with whom it is", "flake(0, 24, 3, 1, 5); say '.'; behind(0, 3) = 3; say 'D>D>Du'; behind(0, 3) = 3");
        doc.says("with whom it is (NONE): above, lying, in the RIVER", """
            flake(0, 24, 3, 2, 3); flake(1, 24, 9, 1, 3); flake(2, 24, 0, 5, 3)
            flake(3, 24, 3, 0, 3); behind(0..3, 3) = NONE; say '<>.'; behind(0..3, 3) = NONE; behind(0..3, 1) = 3 9 NONE 3
            """);
        doc.says("as it is now, whatever was asked ahead: FLAKES, ONES, AIRS, IMAGES", """
            flake(0, 24, 1, 1, 1); image(0); say 'c.'; behind(0, 0..3) = 60 1 0 1; judge(2) = 1; posted(0) = 1
            stand(1, 9); behind(0, 3) = NONE; posted(0) = 0; stand(0, 1); behind(0, 3) = 0; stands(0, 2) = 1
            air(0, 0); behind(0, 0) = 0; flake(0, 1, 9, 3, 1); behind(0, 1..3) = 9 2 NONE; judge(2) = 0
            flake(1, 1, 1, 1, 1); judge(2) = 1; melt(1); judge(2) = 0; restore(0); behind(0, 0..3) = 60 1 0 1; judge(2) = 1
            """);
        doc.says("it only tells", "flake(0, 24, 1, 1, 1); say 'c.Bu'; keep; behind(0, 0..3) = 60 1 0 1; same");
    }

    private static void behindRefused() {
        doc.promise(10);
        doc.says("UNKNOWN", """
            behind(0..7, 0) = UNKNOWN; flake(0, 1, 1, 1, 1); behind(1..7, 0) = UNKNOWN; behind(-1, 0) = UNKNOWN
            behind(8, 0) = UNKNOWN
            behind(32, 0) = UNKNOWN; behind(LEAST, 0) = UNKNOWN; behind(MOST, 0) = UNKNOWN; melt(0); behind(0, 0) = UNKNOWN
            """);
        doc.says("OUTSIDE", """
            flake(0, 1, 1, 1, 1); behind(0, -1) = OUTSIDE; behind(0, 4) = OUTSIDE; behind(0, LEAST) = OUTSIDE
            behind(0, MOST) = OUTSIDE
            """);
        doc.says("NO, as of judge(2)", """
            flake(0, 1, 1, 1, 1); pad 'A'; behind(0, 0..3) = NO; pad 'u'; behind(0, 0..3) = NO
            pad 'cx'; behind(0, 0) = NO
            """);
        doc.says("STATE, as of judge(2)", """
            flake(0, 1, 1, 1, 1); pad 'A<'; behind(0, 0..3) = STATE; pad '..'; behind(0, 0..3) = STATE
            """);
    }

    private static void stands() {
        doc.promise(11);
        doc.says("of no ACTS: as it is", "stands(0..5, 0) = 0 1 2 3 4 5; stands(0..5, 1) = 0; stands(0..5, 2) = 0");
        doc.says("PLACE", "say 'A>A>B<'; stands(0..2, 0) = 2 0 2; say 'B>B>A<'; stands(0..2, 0) = 1 2 2; told(100) = 0");
        doc.says("PLACE at the ends", "stand(5, 14); say 'F>B<'; stands(5, 0) = 15; stands(1, 0) = 0");
        doc.says("UMBRELLA (1, 0)", """
            say 'Fu'; stands(5, 1) = 1; stands(4, 1) = 0; say 'Fu'; stands(5, 1) = 0; say 'Fu'; stands(5, 1) = 1
            """);
        doc.says("FLAKES that are with him (bits)", """
            flake(0..7, 1, 2, 1, 0); flake(3, 1, 1, 1, 0); flake(7, 1, 9, 1, 0); flake(6, 1, 2, 2, 0)
            stands(2, 2) = 0; say '.'; stands(2, 2) = 55; stands(1, 2) = 8; stands(0, 2) = 0; stands(5, 2) = 0
            say('.'); stands(2, 2) = 119
            """);
        doc.says("FLAKES that are with him: all, and those from before", """
            flake(0..7, 1, 2, 1, 0); say '.'; stands(2, 2) = 255; done() = 1; stands(2, 2) = 255; melt(7); stands(2, 2) = 127
            flake(7, 1, 3, 1, 0); say 'C>.'; stands(2, 2) = 255; stands(3, 2) = 0
            """);
        doc.says("FLAKES stay with him who goes, or has his UMBRELLA up", """
            flake(4, 1, 0, 1, 0); say '.A>A>Au'; stands(0, 0..2) = 2 1 16
            """);
        doc.says("it only tells", "flake(0, 24, 1, 1, 1); say '.BuB>'; keep; stands(1, 0..2) = 2 1 1; same");
        doc.says("UNKNOWN", """
            stands(-1, 0) = UNKNOWN; stands(6, 0) = UNKNOWN; stands(7, 2) = UNKNOWN; stands(LEAST, 0) = UNKNOWN
            stands(MOST, 0) = UNKNOWN
            """);
        doc.says("OUTSIDE", """
            stands(0, -1) = OUTSIDE; stands(5, 3) = OUTSIDE; stands(0, LEAST) = OUTSIDE; stands(0, MOST) = OUTSIDE
            """);
        doc.says("NO, likewise", "pad 'A'; stands(0, 0..2) = NO; pad 'c?'; stands(5, 0..2) = NO");
        doc.says("STATE, likewise", "pad 'A<'; stands(0, 0..2) = STATE; pad 'BuB>.'; stands(1, 0..2) = STATE");
    }

    private static void posted() {
        doc.promise(12);
        doc.says("of no FLAKES", "posted(0..2) = 0 NONE 0; say 'Au'; posted(0..2) = 0 NONE 0");
        doc.says("FLAKES that are with whom they are FOR (bits)", """
            flake(0, 1, 0, 1, 0); flake(1, 1, 1, 1, 0); flake(5, 1, 5, 1, 5); flake(7, 1, 2, 2, 2)
            flake(6, 1, 9, 1, 0); posted(0) = 0; say '.'; posted(0) = 33; say('.'); posted(0) = 161
            """);
        doc.says("all eight of them", "flake(0..7, 1, 3, 1, 3); say '.'; posted(0..2) = 255 0 0");
        doc.says("those from before are so, too", """
            flake(0, 1, 0, 1, 0); flake(1, 1, 1, 2, 1); say '.'; done(); posted(0) = 1; say '.'; posted(0) = 3; posted(1) = 0
            """);
        doc.says("one that lies, or is with another one, is not", """
            flake(0, 1, 0, 1, 1); flake(1, 1, 9, 1, 0); flake(2, 1, 2, 0, 2); say '.'; posted(0..1) = 0 NONE
            """);
        doc.says("the first ACT by which one came so", """
            flake(0, 1, 0, 3, 0); flake(1, 1, 1, 2, 0); flake(2, 1, 2, 4, 2)
            say 'Fu.F<..'; posted(1) = 4; say('.'); posted(1) = 4; posted(0) = 5
            pad '...'; posted(1) = 2; pad '..'; posted(1) = NONE
            """);
        doc.says("the first ACT (from 0 on)", "flake(0, 1, 0, 1, 0); say '.'; posted(1) = 0; pad 'Bu.'; posted(1) = 1");
        doc.says("the first ACT, the last one of a full PAD",
            "flake(0, 1, 0, 1, 0); say '" + "c".repeat(59) + ".'; posted(1) = 59");
        doc.says("the first ACT (NONE)", """
            flake(0, 1, 0, 1, 0); posted(1) = NONE; say 'c'; posted(1) = NONE; pad 'Au.'; posted(1) = NONE
            pad '<'; posted(1) = NONE
            """);
        doc.says("the first ACT (NONE): they came so before", """
            flake(0, 1, 0, 1, 0); say '.'; done(); posted(0..1) = 1 NONE; say 'A>'; posted(0..1) = 1 NONE
            """);
        doc.says("how many are in the RIVER", """
            flake(0, 1, 0, 9, 0); flake(1, 1, 15, 9, 0); flake(2, 1, 1, 9, 0); posted(2) = 0
            pad '<'; posted(2) = 1; pad '<<'; posted(2) = 2; pad '>'; posted(2) = 1; pad '><<<'; posted(2) = 3
            """);
        doc.says("how many are in the RIVER: all, and those from before", """
            flake(0..7, 1, 0, 9, 0); say '<'; posted(2) = 8; done(); posted(2) = 8; melt(0); posted(2) = 7
            flake(0, 1, 15, 1, 0); posted(2) = 7; say '>'; posted(2) = 8
            """);
        doc.says("it only tells", "flake(0, 1, 1, 1, 1); flake(1, 1, 0, 2, 1); say '.<'; keep; posted(0..2) = 1 0 1; same");
    }

    private static void postedRefused() {
        doc.promise(12);
        doc.says("OUTSIDE", "posted(-1) = OUTSIDE; posted(3) = OUTSIDE; posted(LEAST) = OUTSIDE; posted(MOST) = OUTSIDE");
        doc.says("NO, likewise", "pad 'A'; posted(0..2) = NO; pad '.?'; posted(0..2) = NO");
        doc.says("STATE, likewise", "pad 'A<'; posted(0..2) = STATE; flake(0, 1, 0, 1, 0); pad '..'; posted(0..2) = STATE");
    }

    private static void done() {
        doc.promise(13);
        doc.says("ACTS", "pad 'Au'; done() = 1; pad 'AuA>B>'; done() = 3; flake(0, 1, 5, 9, 1); pad 'cdAu<>.'; done() = 6");
        doc.says("ACTS: none", "done() = 0; say('c'); wipe(); done() = 0; told(0) = 0");
        doc.says("ACTS: of a full PAD", "flake(0, 1, 5, 9, 1); say '" + "c".repeat(60) + "'; done() = 60; told(0) = 0",
            "say '" + "Fu".repeat(30) + "'; done() = 30; told(0) = 0; told(151) = 0");
        doc.says("DAYS are DONE: it is so then", """
            flake(0, 24, 2, 1, 2); flake(1, 24, 14, 9, 0); flake(2, 24, 8, 5, 0); say 'c>>D<Du<.C<'; done() = 8
            told(10..14) = 60 3 0 2 NONE; told(20..24) = 60 NONE 0 0 NONE; told(30..34) = 60 9 4 0 NONE; told(5) = 2
            told(120) = 1; told(130) = 2; told(131) = 1; told(121) = 0; posted(0..2) = 0 NONE 1; patch(0) = 10
            """);
        doc.says("DAYS are DONE: who has which", """
            flake(0, 24, 2, 1, 2); say '.C>'; done() = 2; told(14) = 2; told(120) = 3; posted(0) = 1; stands(2, 2) = 1
            """);
        doc.says("the PAD is empty then", """
            say 'Au'; done(); told(0) = 0; fault() = NONE; judge(0) = NONE; wipe() = 0; done() = 0; told(101) = 1
            say('u') = 1; fault() = 0
            """);
        doc.says("what is behind one day is ahead of the next", """
            flake(0, 24, 2, 3, 2); say '.'; done() = 1; say '.'; done() = 1; told(12) = 1; say '.'; done() = 1
            told(14) = 2; say '.'; done() = STATE
            """);
        doc.says("AIRS, SIGHTS and IMAGES stay", """
            image(0); air(0, 1); seen(24, 60); say 'Au'; done(); told(0..5) = 0 0 1 30 1 0; restore(0); told(101) = 0
            told(2) = 90
            """);
    }

    private static void doneRefused() {
        doc.promise(13);
        doc.says("NO, likewise: nothing is DONE", """
            flake(0, 24, 2, 1, 2); say 'cA>.A'; keep; done() = NO; same; told(0) = 5; say('u'); done() = 4
            told(14) = 2
            """);
        doc.says("STATE, likewise: nothing is DONE", """
            flake(0, 24, 2, 1, 2); say 'cA>..Bu'; keep; done() = STATE; same; told(0) = 7; told(12) = 1; told(100) = 0
            """);
    }

    private static void says() {
        doc.promise(14);
        doc.says("an ARM is read from cell 0 on: how many cells side by side are alike each time, as a number", """
            says(170) = 11111111; says(85) = 11111111; says(15) = 44; says(240) = 44; says(1) = 17; says(128) = 71
            says(24) = 323
            says(254) = 17; says(126) = 161; says(3) = 26; says(2) = 116; says(64) = 611; says(204) = 2222; says(11) = 2114
            """);
        doc.says("all cells are alike", "says(0) = 8; says(255) = 8");
        doc.says("OUTSIDE", "says(-1) = OUTSIDE; says(256) = OUTSIDE; says(LEAST) = OUTSIDE; says(MOST) = OUTSIDE");
        doc.says("a PAD, whatever it is, is no matter", "say('?'); says(15) = 44; pad 'A<'; says(15) = 44");
    }
}
