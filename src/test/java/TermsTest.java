/** The Terms of the document: refusals, PLACES, ARMS, LAWS, what there is, and what each ACT does. */
public final class TermsTest {
    private static final Doc doc = new Doc();

    /** 0 is with C, whom it is FOR; 1 is in the RIVER; 2 is above 0; 3 lies; E has his UMBRELLA up; one SIGHT. */
    static final String FULL_DAY = """
        flake(0, 24, 2, 1, 2); flake(1, 7, 15, 3, 5); flake(2, 9, 12, 9, 0); flake(3, 1, 9, 0, 4)
        air(0, 110); air(1, 54); stand(5, 13); seen(24, 60)
        pad '.EuA>A>A>>'; done() = 6
        """;

    public static void main(String[] args) {
        refusals();
        nothingChanges();
        placesArmsLaws();
        whatThereIs();
        growing();
        winds();
        falling();
        ones();
        theFault();
        reasons();
        calls();
        doc.end();
    }

    private static void refusals() {
        doc.terms(0);
        doc.says("the first of these that fits: UNKNOWN ahead of OUTSIDE", """
            flake(8, 256, 16, 10, 0) = UNKNOWN
            flake(0, -1, -1, -1, -1) = UNKNOWN
            flake(0, 256, 16, 10, 6) = UNKNOWN
            stand(6, 16) = UNKNOWN
            stand(-1, -1) = UNKNOWN
            behind(0, 4) = UNKNOWN
            behind(8, -1) = UNKNOWN
            stands(6, 3) = UNKNOWN
            stands(-1, -1) = UNKNOWN
            """);
        doc.says("the first of these that fits: UNKNOWN ahead of NO", """
            say('?')
            behind(0, 0) = UNKNOWN
            stands(6, 0) = UNKNOWN
            """);
        doc.says("the first of these that fits: UNKNOWN ahead of STATE", """
            say 'A<'
            behind(0, 0) = UNKNOWN
            stands(6, 0) = UNKNOWN
            """);
        doc.says("the first of these that fits: OUTSIDE ahead of NO", """
            flake(0, 1, 1, 1, 1); say('?')
            judge(3) = OUTSIDE
            judge(-1) = OUTSIDE
            behind(0, 4) = OUTSIDE
            stands(0, 3) = OUTSIDE
            posted(3) = OUTSIDE
            """);
        doc.says("the first of these that fits: OUTSIDE ahead of STATE", """
            flake(0, 1, 1, 1, 1)
            say 'A<'; judge(3) = OUTSIDE
            behind(0, 4) = OUTSIDE
            stands(0, 3) = OUTSIDE
            posted(3) = OUTSIDE
            restore(2) = OUTSIDE
            restore(-1) = OUTSIDE
            """);
        doc.says("the first of these that fits: NO ahead of STATE", """
            flake(0, 1, 1, 1, 1)
            say 'A<?'; judge(0..2) = NO
            behind(0, 0..3) = NO
            stands(0, 0..2) = NO
            posted(0..2) = NO
            done() = NO
            """);
        doc.says("the first of these that fits: OUTSIDE ahead of FULL", "say '" + "c".repeat(60) + "'" + """

            say(32) = OUTSIDE
            say(127) = OUTSIDE
            """, """
            seen(0..7, 0)
            seen(256, 0) = OUTSIDE
            seen(0, -1) = OUTSIDE
            """);
    }

    private static void nothingChanges() {
        doc.terms(0);
        refusedChangeNothing("UNKNOWN", """
            flake(-1, 0, 0, 0, 0) = UNKNOWN; flake(8, 0, 0, 0, 0) = UNKNOWN
            flake(3, 0, 0, 0, 6) = UNKNOWN; flake(3, 0, 0, 0, -1) = UNKNOWN; flake(4, 0, 0, 0, 6) = UNKNOWN
            melt(4) = UNKNOWN; melt(8) = UNKNOWN; melt(-1) = UNKNOWN
            stand(6, 3) = UNKNOWN; stand(-1, 3) = UNKNOWN
            behind(4, 0) = UNKNOWN; stands(6, 0) = UNKNOWN
            """);
        refusedChangeNothing("OUTSIDE, of what changes otherwise", """
            flake(3, 256, 2, 3, 5) = OUTSIDE; flake(3, 2, 16, 3, 5) = OUTSIDE; flake(3, 2, 3, 10, 5) = OUTSIDE
            flake(4, -1, 2, 3, 5) = OUTSIDE; flake(4, 2, -1, 3, 5) = OUTSIDE; flake(4, 2, 3, -1, 5) = OUTSIDE
            stand(4, 16) = OUTSIDE; stand(4, -1) = OUTSIDE
            air(0, 256) = OUTSIDE; air(1, -1) = OUTSIDE; air(2, 5) = OUTSIDE; air(-1, 5) = OUTSIDE
            say(32) = OUTSIDE; say(127) = OUTSIDE; seen(256, 0) = OUTSIDE; seen(0, 256) = OUTSIDE
            image(2) = OUTSIDE; image(-1) = OUTSIDE; restore(2) = OUTSIDE; restore(-1) = OUTSIDE
            """);
        refusedChangeNothing("OUTSIDE, of what only tells", """
            judge(3) = OUTSIDE; behind(0, 4) = OUTSIDE; stands(0, 3) = OUTSIDE; posted(3) = OUTSIDE; says(256) = OUTSIDE
            grew(0, 0, 11, 0) = OUTSIDE; soon(256, 0) = OUTSIDE; most(2) = OUTSIDE; patch(2) = OUTSIDE
            look(2) = OUTSIDE; gusts(0, 7, 0, 0, 0, 0) = GONE_OUTSIDE; spoon(61, 0) = OUTSIDE; year(0, 100, 0) = OUTSIDE
            told(6) = OUTSIDE; told(50) = OUTSIDE; told(160) = OUTSIDE
            """);
        doc.says("they change nothing: NO", FULL_DAY + """
            say 'c.F<A'
            keep; judge(0..2) = NO; behind(0, 0) = NO; stands(5, 0) = NO; posted(0) = NO; done() = NO
            same
            """);
        doc.says("they change nothing: STATE", FULL_DAY + """
            say 'c.F>F>F>'
            keep; judge(2) = STATE; behind(0, 0) = STATE; stands(5, 0) = STATE; posted(0) = STATE; done() = STATE
            restore(0) = STATE; restore(1) = STATE
            same
            """);
        doc.says("they change nothing: FULL", FULL_DAY + """
            seen(24, 60); seen(24, 60); seen(24, 60); seen(24, 60); seen(24, 60); seen(24, 60); seen(24, 60) = 8
            say 'AuAuAuAuAuAuAuAuAuAuAuAuAuAuAuAuAuAuAuAuAuAuAuAuAuAuAuAuAuAu'
            keep; seen(0, 1) = FULL; say('?') = FULL; say('A') = FULL
            same
            """);
        doc.says("they change nothing: what an IMAGE keeps", FULL_DAY + """
            keep; image(0) = 1; melt(0)
            air(0, 1); image(2) = OUTSIDE; image(-1) = OUTSIDE; restore(1) = STATE; restore(2) = OUTSIDE
            restore(0) = 1; same
            """);
        doc.says("a sign that is said changes what fault() tells", """
            fault() = NONE; say('A') = 1; fault() = 1; say('u') = 2; fault() = NONE; say('?') = 3; fault() = 2
            """);
    }

    private static void refusedChangeNothing(String refusal, String refused) {
        doc.says("they change nothing: " + refusal, FULL_DAY + "say 'cF<'; keep\n" + refused + "same");
    }

    private static void placesArmsLaws() {
        doc.terms(1);
        doc.says("PLACES 0 to 15 in a row, from west to east", """
            flake(0, 1, 1, 9, 0); flake(1, 1, 14, 9, 0)
            pad '<'; behind(0, 1) = 0; behind(1, 1) = 13
            pad '>'; behind(0, 1) = 2; behind(1, 1) = 15
            """);
        doc.says("off both ends is the river", """
            flake(0, 1, 0, 9, 0); flake(1, 1, 15, 9, 0)
            pad '<'; behind(0, 1) = NONE; behind(1, 1) = 14; posted(2) = 1
            pad '>'; behind(0, 1) = 1; behind(1, 1) = NONE; posted(2) = 1
            """);
        doc.says("cell 0 is bit 0 (of the next and the one ahead)", """
            air(0, 240); air(1, 170); flake(0, 16, 0, 1, 0)
            pad 'c'; behind(0, 0) = 8
            pad 'd'; behind(0, 0) = 32
            """);
        // The cells of the ARM 46 ask for the bits 4 6 7 3 5 2 1 0, from cell 0 on.
        int[] asked = {128, 64, 32, 8, 1, 16, 2, 4};
        for (int number = 0; number < 8; number++) {
            doc.says("a cell is there then, if that bit of the LAW is 1 whose number is 4 times the next cell, 2 times itself,"
                + " and the one ahead of it: bit " + number, "air(0, " + (1 << number) + "); flake(0, 46, 0, 1, 0)"
                + "; say('c'); behind(0, 0) = " + asked[number]);
        }
        doc.says("beyond the ARM 0: behind cell 7", """
            air(0, 16); flake(0, 1, 0, 1, 0); flake(1, 255, 0, 1, 0); say('c')
            behind(0, 0) = 0
            behind(1, 0) = 0
            pad ''; air(0, 8); say('c'); behind(1, 0) = 128
            """);
        doc.says("beyond the ARM 0: ahead of cell 0", """
            air(0, 2); flake(0, 128, 0, 1, 0); flake(1, 255, 0, 1, 0); say('c')
            behind(0, 0) = 0
            behind(1, 0) = 0
            pad ''; air(0, 64); say('c'); behind(1, 0) = 1
            """);
        doc.says("beyond the ARM 0: nothing grows there", """
            air(0, 255); air(1, 254); flake(0, 0, 0, 1, 0); flake(1, 255, 0, 1, 0)
            pad 'c'; behind(0..1, 0) = 255
            pad 'd'; behind(0..1, 0) = 0 255
            """);
        doc.says("two AIRS have LAWS: COLD (90 at first) and DAMP (30 at first)", """
            told(2) = 90; told(3) = 30; flake(0, 1, 0, 1, 0)
            pad 'c'; behind(0, 0) = 2
            pad 'd'; behind(0, 0) = 3
            """);
    }

    private static void whatThereIs() {
        doc.terms(1);
        doc.says("FLAKES 0 to 7, some of which there are (none at first)", """
            told(1) = 0; behind(0..7, 0) = UNKNOWN; flake(0, 1, 1, 1, 1) = 1; flake(7, 1, 1, 1, 1) = 2; told(1) = 129
            """);
        doc.says("a HEIGHT (0: it is DOWN)", """
            flake(0, 1, 1, 0, 1); pad '.'; judge(1) = 2; pad '<'; judge(1) = 2; most(0) = 0; year(0, 99, 2) = 0
            """);
        doc.says("when it is DOWN, is with a ONE, or lies (with nobody)", """
            flake(0, 1, 1, 1, 1); flake(1, 1, 9, 1, 1); say('.')
            behind(0..1, 3) = 1 NONE
            """);
        doc.says("when it is above 0, it is with nobody", """
            flake(0, 1, 1, 2, 1); say('.'); behind(0, 2) = 1; behind(0, 3) = NONE; stands(1, 2) = 0
            """);
        doc.says("a FLAKE that came off the row is in the RIVER (PLACE none)", """
            flake(0, 1, 15, 5, 1); pad '>'; behind(0, 1) = NONE; done() = 1; told(11) = NONE; told(5) = 1; told(12) = 0
            """);
        doc.says("one in the RIVER does not lie, nor is it above 0", """
            flake(0, 1, 15, 5, 1); pad '>'; done(); patch(0) = 10; most(1) = 0; pad '<'; judge(1) = 2; year(3, 99, 2) = 0
            pad 'Au'; judge(2) = 0
            """);
        doc.says("ONES 0 to 5 (A to F) are all there: each has a PLACE (its own number at first)", """
            told(100) = 0; told(110) = 1; told(120) = 2; told(130) = 3; told(140) = 4; told(150) = 5
            stands(0..5, 0) = 0 1 2 3 4 5
            """);
        doc.says("an UMBRELLA up or not (not, at first)", """
            told(101) = 0; told(111) = 0; told(121) = 0; told(131) = 0; told(141) = 0; told(151) = 0
            stands(0..5, 1) = 0
            """);
    }

    private static void growing() {
        doc.terms(1);
        doc.says("c or d: all FLAKES that are above 0 grow", """
            air(0, 204); air(1, 51); flake(0, 1, 0, 1, 0); flake(1, 2, 15, 9, 0); flake(2, 3, 7, 5, 0)
            pad 'c'; behind(0..2, 0) = 1 2 3
            pad 'd'; behind(0..2, 0) = 254 253 252
            """);
        doc.says("c or d: one that is DOWN does not grow", """
            flake(0, 24, 0, 9, 0); flake(1, 24, 1, 1, 1); flake(2, 24, 9, 0, 0); flake(3, 24, 10, 1, 0)
            say '.c'; behind(0..3, 0) = 60 24 24 24
            pad '.d'; behind(1..3, 0) = 24
            """);
        doc.says("c or d: one in the RIVER does not grow", """
            flake(0, 24, 5, 9, 0); flake(1, 24, 0, 9, 0); say '<c'; behind(0..1, 0) = 60 24
            """);
        doc.says("c or d: nothing but ARMS is changed by them", """
            flake(0, 24, 5, 2, 0); say 'cd'; behind(0, 1..3) = 5 2 NONE; stands(0..5, 0) = 0 1 2 3 4 5; posted(2) = 0
            """);
    }

    private static void winds() {
        doc.terms(1);
        doc.says("a wind: all those go a PLACE west, east", """
            flake(0, 24, 5, 1, 0); flake(1, 24, 9, 9, 0); flake(2, 24, 14, 4, 0)
            pad '<'; behind(0..2, 1) = 4 8 13
            pad '>'; behind(0..2, 1) = 6 10 15
            pad '<>'; behind(0..2, 1) = 5 9 14; behind(0..2, 0) = 24; behind(0..2, 2) = 1 9 4
            """);
        doc.says("a wind: one that is DOWN stays, and so do ONES", """
            flake(0, 1, 5, 9, 0); flake(1, 1, 1, 1, 1); flake(2, 1, 9, 1, 0); flake(3, 1, 15, 0, 0); flake(4, 1, 0, 0, 0)
            say '.>>'; behind(0..4, 1) = 7 1 9 15 0; stands(0..5, 0) = 0 1 2 3 4 5; behind(1, 3) = 1
            pad '.<<<'; behind(0..4, 1) = 2 1 9 15 0; posted(2) = 0
            """);
        doc.says("off the row: into the RIVER, from any HEIGHT, and for good", """
            flake(0, 1, 0, 1, 0); flake(1, 1, 0, 9, 0); flake(2, 1, 15, 9, 0)
            say '<>'; behind(0..2, 1) = NONE NONE 15; behind(0..2, 2) = 0 0 9
            pad '>.<<'; behind(0..2, 1) = 1 NONE NONE
            """, """
            flake(0, 1, 0, 1, 0); flake(1, 1, 0, 9, 0); flake(2, 1, 15, 9, 0)
            say '<>.'; posted(2) = 2; behind(0..2, 2) = 0 0 8; judge(2) = 0
            """);
    }

    private static void falling() {
        doc.terms(1);
        doc.says(".: all those are one HEIGHT less", """
            flake(0, 24, 5, 9, 0); flake(1, 24, 6, 2, 0); flake(2, 24, 0, 1, 0)
            pad '.'; behind(0..2, 2) = 8 1 0; behind(0..2, 0) = 24; behind(0..2, 1) = 5 6 0
            pad '.........'; behind(0..2, 2) = 0; judge(0) = NONE
            """);
        doc.says(".: one that is DOWN, or in the RIVER, is not less", """
            flake(0, 1, 9, 9, 0); flake(1, 1, 0, 1, 0); flake(2, 1, 8, 0, 0); flake(3, 1, 15, 4, 0)
            say '>....'; behind(0..3, 2) = 5 0 0 0; behind(2..3, 3) = NONE
            """);
        doc.says("what comes to 0 so is DOWN: with who stands there", """
            flake(0, 1, 5, 1, 0); flake(1, 1, 6, 1, 0); flake(2, 1, 4, 2, 0); say('.')
            behind(0..2, 3) = 5 NONE NONE; stands(5, 2) = 1; stands(4, 2) = 0
            """);
        doc.says("with the least ONE who stands there", """
            stand(5, 9); stand(3, 9); stand(4, 9); flake(0, 1, 9, 1, 5); say('.'); behind(0, 3) = 3
            pad 'D>.'; behind(0, 3) = 4
            pad 'C>C>C>C>C>C>C>.'; behind(0, 3) = 2
            """);
        doc.says("without an UMBRELLA", """
            stand(5, 9); stand(3, 9); stand(4, 9); flake(0, 1, 9, 1, 5)
            say 'Du.'; behind(0, 3) = 4
            pad 'DuEu.'; behind(0, 3) = 5
            pad 'DuEuDu.'; behind(0, 3) = 3
            """);
        doc.says("if any", """
            flake(0, 1, 2, 1, 2)
            pad 'Cu.'; behind(0, 3) = NONE; posted(0) = 0
            pad 'C>.'; behind(0, 3) = NONE
            pad 'C>.C<'; behind(0, 3) = NONE
            pad 'Cu.Cu'; behind(0, 3) = NONE
            pad '.Cu'; behind(0, 3) = 2
            pad '.C>'; behind(0, 3) = 2
            """);
        doc.says("one ONE can have many with him", """
            flake(0..7, 1, 3, 1, 0); flake(6, 1, 3, 2, 0); say '.'; stands(3, 2) = 191; say('.'); stands(3, 2) = 255
            """);
    }

    private static void ones() {
        doc.terms(1);
        doc.says("a ONE's letter and < or > (a step west, east)", """
            stand(0..5, 8); say 'A<B>C<D>E<F>'; stands(0..5, 0) = 7 9 7 9 7 9; say 'A<'; stands(0..5, 0) = 6 9 7 9 7 9
            """);
        doc.says("a step goes as far as the ends", """
            stand(0, 1); stand(5, 14); say 'A<F>'; stands(0, 0) = 0; stands(5, 0) = 15; judge(0) = NONE
            """);
        doc.says("a ONE's letter and u (UMBRELLA up, or not any more)", """
            say 'Au'; stands(0..5, 1) = 1 0 0 0 0 0; say 'AuFu'; stands(0..5, 1) = 0 0 0 0 0 1
            say 'BuCuDuEu'; stands(0..5, 1) = 0 1 1 1 1 1; done() = 7; pad 'Fu'; stands(5, 1) = 0
            """);
        doc.says("a step leaves his UMBRELLA as it is", """
            say 'AuA>B>'; stands(0..1, 1) = 1 0
            """);
    }

    private static void theFault() {
        doc.terms(1);
        doc.says("an empty PAD has no FAULT: no ACTS", """
            fault() = NONE; judge(0) = NONE; judge(1) = NONE; judge(2) = 0; done() = 0
            """);
        doc.says("the first sign that can not stand there", """
            pad 'x'; fault() = 0
            pad 'cx'; fault() = 1
            pad 'Ax'; fault() = 1
            pad 'AuxA'; fault() = 2
            pad 'xx'; fault() = 0
            """);
        doc.says("the number of signs, if more must come", """
            pad 'A'; fault() = 1
            pad 'cA'; fault() = 2
            pad 'AuF'; fault() = 3
            """);
    }

    private static void reasons() {
        doc.terms(1);
        doc.says("1 he would step into the river", """
            pad 'A<'; judge(1) = 1
            stand(5, 15); pad 'F>'; judge(1) = 1
            stand(0, 15); pad 'A>'; judge(1) = 1
            stand(5, 0); pad 'F<'; judge(1) = 1
            """);
        doc.says("2 no FLAKE is above 0 and not in the RIVER (c, d, a wind, .)", """
            pad 'c'; judge(1) = 2
            pad 'd'; judge(1) = 2
            pad '<'; judge(1) = 2
            pad '>'; judge(1) = 2
            pad '.'; judge(1) = 2
            flake(0, 1, 9, 1, 0)
            pad 'cd<>.'; judge(1) = NONE
            """);
        doc.says("2 is no reason for a ONE's ACTS, 1 none for winds", """
            pad 'AuA>A<Au'; judge(1) = NONE; stand(5, 15); flake(0, 1, 8, 9, 0); pad '<>'; judge(1) = NONE
            """);
    }

    private static void calls() {
        doc.terms(0);
        doc.says("README.md's way of using it", """
            flake(0, 24, 2, 1, 2) = 1; say('c') = 1; say('.') = 2; fault() = NONE; judge(0) = NONE; posted(0) = 1; done() = 2
            told(14) = 2; told(24) = OUTSIDE; gusts(5, 2, 1, 1, 5, 0..1) = 33 50
            """);
        doc.says("an object is used for at most 512 calls: the last one is as the first one",
            "say(99) = 1; wipe() = 1;".repeat(256),
            "flake(0, 1, 1, 1, 1) = 1; melt(0) = 0;".repeat(256), "seen(1, 2) = 1; forget() = 1;".repeat(256),
            "image(0) = 1; restore(0) = 1;".repeat(256), "say(65) = 1; say(117) = 2; done() = 1; told(0) = 0;".repeat(128),
            "flake(7, 1, 1, 1, 1) = 1;" + "flake(7, 255, 15, 9, 5) = 1;".repeat(511),
            "air(0, 153); air(1, 236);" + "soon(227, 47) = 64; grew(227, 47, 10, 0) = 0;".repeat(255),
            "flake(0, 1, 1, 9, 1);" + "year(9, 99, 2) = 0;".repeat(511), "gusts(0, 6, 3, 3, -1, 0) = 153783;".repeat(512));
    }
}
