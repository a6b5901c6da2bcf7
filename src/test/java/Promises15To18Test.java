/** Promises 15 to 18: airs, what can be got, patches. */
public final class Promises15To18Test {
    private static final Doc doc = new Doc();

    public static void main(String[] args) {
        grew();
        grewRefused();
        soon();
        most();
        mostByWhoever();
        patch();
        doc.end();
    }

    private static void grew() {
        doc.promise(15);
        doc.says("rows of n AIRS by which one ARM becomes another one: how many", """
            grew(24, 60, 1, 0) = 1; grew(24, 52, 1, 0) = 1; grew(24, 24, 1, 0) = 0; grew(24, 102, 2, 0) = 2
            air(0, 204); air(1, 170); grew(1, 128, 7, 0) = 1; grew(1, 128, 8, 0) = 8; grew(1, 128, 10, 0) = 120
            grew(1, 128, 6, 0) = 0
            """);
        doc.says("how many: of no AIRS", """
            grew(7, 7, 0, 0) = 1; grew(0, 0, 0, 0) = 1; grew(255, 255, 0, 0) = 1; grew(7, 8, 0, 0) = 0
            grew(0, 255, 0, 0) = 0
            """);
        doc.says("how many: all rows of 10", """
            air(0, 204); air(1, 204); grew(255, 255, 10, 0) = 1024; grew(0, 0, 10, 0) = 1024; grew(77, 78, 10, 0) = 0
            """);
        doc.says("how many: the last AIR alone matters", """
            air(0, 0); air(1, 255); grew(9, 255, 10, 0) = 512; grew(9, 0, 10, 0) = 512; grew(9, 1, 10, 0) = 0
            """);
        doc.says("the first (1 COLD, 2 DAMP)", "grew(24, 60, 1, 1) = 1; grew(24, 52, 1, 1) = 2; grew(24, 102, 2, 1) = 11");
        doc.says("the first (as a number of n digits: the first AIR is the first digit)", """
            air(0, 240); air(1, 255); grew(5, 127, 2, 1) = 21; grew(5, 255, 2, 1) = 12; grew(5, 31, 4, 1) = 2111
            grew(5, 255, 4, 1) = 1112
            """);
        doc.says("the first (the least)", """
            air(0, 204); air(1, 170); grew(1, 128, 10, 1) = 1112222222; grew(1, 2, 4, 1) = 1112; grew(1, 1, 4, 1) = 1111
            air(0, 170); air(1, 204); grew(1, 128, 10, 1) = 1111111222; grew(1, 2, 4, 1) = 1222; grew(1, 1, 4, 1) = 2222
            """);
        doc.says("the first: the least and the greatest number there is", """
            air(0, 204); air(1, 204); grew(255, 255, 10, 1) = 1111111111; air(0, 0)
            air(1, 30); grew(1, 130, 10, 1) = 2222222222
            grew(1, 130, 10, 0) = 1; grew(1, 251, 9, 1) = 222222222
            """);
        doc.says("the first (0 of no AIRS)", "grew(7, 7, 0, 1) = 0; grew(0, 0, 0, 1) = 0; grew(255, 255, 0, 1) = 0");
        doc.says("NONE", """
            grew(7, 8, 0, 1) = NONE; air(0, 204); air(1, 204); grew(1, 2, 1, 1) = NONE; grew(1, 2, 10, 1) = NONE
            """);
        doc.says("n AIRS, no fewer", """
            air(0, 0); air(1, 255); grew(9, 9, 1, 0) = 0; grew(9, 9, 1, 1) = NONE; grew(9, 9, 10, 0) = 0
            """);
        doc.says("the same LAW twice: rows are told apart by their AIRS", """
            air(0, 30); air(1, 30); grew(1, 3, 1, 0) = 2; grew(1, 3, 1, 1) = 1; grew(1, 6, 2, 0) = 4
            grew(1, 6, 2, 1) = 11
            """);
        doc.says("it only tells", TermsTest.FULL_DAY + """
            say 'cF<'; keep; grew(24, 60, 10, 0); grew(24, 60, 10, 1); soon(24, 60); most(0..1); patch(0..1); same
            """);
    }

    private static void grewRefused() {
        doc.promise(15);
        doc.says("OUTSIDE: ARMS", """
            grew(-1, 0, 0, 0) = OUTSIDE; grew(256, 0, 0, 0) = OUTSIDE; grew(0, -1, 0, 0) = OUTSIDE; grew(0, 256, 0, 0) = OUTSIDE
            grew(LEAST, 0, 0, 0) = OUTSIDE; grew(MOST, 0, 0, 0) = OUTSIDE; grew(0, LEAST, 0, 0) = OUTSIDE
            grew(0, MOST, 0, 0) = OUTSIDE
            grew(256, 256, 0, 0) = OUTSIDE
            """);
        doc.says("OUTSIDE: n", """
            grew(0, 0, -1, 0) = OUTSIDE; grew(0, 0, 11, 0) = OUTSIDE; grew(0, 0, LEAST, 0) = OUTSIDE
            grew(0, 0, MOST, 0) = OUTSIDE
            grew(0, 0, -1, 1) = OUTSIDE; grew(0, 0, 11, 1) = OUTSIDE
            """);
        doc.says("OUTSIDE: what", """
            grew(0, 0, 0, -1) = OUTSIDE; grew(0, 0, 0, 2) = OUTSIDE; grew(0, 0, 0, LEAST) = OUTSIDE
            grew(0, 0, 0, MOST) = OUTSIDE
            """);
        doc.says("the ends of what is inside", """
            grew(255, 255, 0, 1) = 0; air(0, 204); grew(255, 255, 10, 1) = 1111111111; grew(0, 0, 10, 1) = 1111111111
            """);
    }

    private static void soon() {
        doc.promise(16);
        doc.says("the fewest AIRS by which it can", """
            soon(24, 60) = 1; soon(24, 52) = 1; soon(24, 102) = 2; air(0, 204); air(1, 170); soon(1, 128) = 7; soon(1, 2) = 1
            air(1, 204); air(0, 170); soon(1, 128) = 7; air(1, 240); soon(128, 1) = 7; soon(24, 192) = 3; soon(24, 3) = 3
            """);
        doc.says("the fewest: more than ten AIRS", """
            air(0, 153); air(1, 236); soon(227, 47) = 64; air(0, 236); air(1, 153); soon(227, 47) = 64
            soon(218, 47) = 63
            """);
        doc.says("0: it is that", """
            soon(0, 0) = 0; soon(255, 255) = 0; soon(24, 24) = 0; air(0, 0); air(1, 0); soon(24, 24) = 0
            soon(24, 0) = 1
            """);
        doc.says("NONE", """
            air(0, 204); air(1, 204); soon(24, 25) = NONE; soon(0, 255) = NONE; air(0, 170); soon(128, 1) = NONE
            air(0, 0); air(1, 255); soon(0, 1) = NONE
            """);
        doc.says("NONE: what another ARM would become is no matter, nor what was asked ahead", """
            air(0, 205); air(1, 205); soon(85, 255) = NONE; soon(0, 255) = 1; soon(85, 255) = NONE; soon(85, 85) = 0
            """);
        doc.says("NONE: an ARM that becomes another one, but not the other way", """
            air(0, 153); air(1, 236); soon(227, 47) = 64; soon(47, 227) = NONE
            """);
        doc.says("OUTSIDE", """
            soon(-1, 0) = OUTSIDE; soon(256, 0) = OUTSIDE; soon(0, -1) = OUTSIDE; soon(0, 256) = OUTSIDE
            soon(256, 256) = OUTSIDE
            soon(LEAST, 0) = OUTSIDE; soon(MOST, 0) = OUTSIDE; soon(0, LEAST) = OUTSIDE; soon(0, MOST) = OUTSIDE
            soon(-1, -1) = OUTSIDE
            """);
    }

    private static void most() {
        doc.promise(17);
        doc.says("no FLAKES", "most(0..1) = 0");
        doc.says("if he can be at its PLACE when it comes DOWN, one PLACE a HEIGHT: from the west", """
            stand(0..4, 15); stand(5, 5); flake(0, 1, 9, 4, 5); most(0..1) = 1; flake(0, 1, 9, 3, 5); most(0..1) = 0
            flake(0, 1, 14, 9, 5); most(0) = 1; flake(0, 1, 15, 9, 5); most(0) = 0
            """);
        doc.says("if he can be at its PLACE when it comes DOWN, one PLACE a HEIGHT: from the east", """
            stand(0..4, 0); stand(5, 9); flake(0, 1, 5, 4, 5); most(0..1) = 1; flake(0, 1, 5, 3, 5); most(0..1) = 0
            flake(0, 1, 9, 1, 5); most(0) = 1; flake(0, 1, 10, 1, 5); most(0) = 1; flake(0, 1, 11, 1, 5); most(0) = 0
            """);
        doc.says("a FLAKE that is above 0", """
            flake(0, 1, 0, 0, 0); most(0..1) = 0; flake(1, 1, 1, 1, 1); pad '.'; done(); most(0..1) = 0
            """);
        doc.says("not in the RIVER", """
            flake(0, 1, 0, 9, 0); flake(1, 1, 1, 9, 0); pad '<'; done(); most(0..1) = 1; melt(1); most(0..1) = 0
            """);
        doc.says("no wind", "flake(0, 1, 9, 1, 5); say '<<<'; most(0..1) = 0; pad '<<<?'; most(0..1) = 0");
        doc.says("UMBRELLAS are no matter", "flake(0, 1, 9, 4, 5); say 'FuEuDuCuBuAu'; done(); most(0..1) = 1");
        doc.says("by whom they are FOR, each ONE one at the most", """
            flake(0..7, 1, 3, 9, 3); most(0) = 1; flake(0, 1, 3, 9, 2); most(0) = 2; flake(7, 1, 3, 9, 5); most(0) = 3
            """);
        doc.says("by whom they are FOR: all six", """
            flake(0, 1, 0, 1, 0); flake(1, 1, 1, 1, 1); flake(2, 1, 2, 1, 2); flake(3, 1, 3, 1, 3)
            flake(4, 1, 4, 1, 4); flake(5, 1, 5, 1, 5); most(0) = 6; flake(6, 1, 5, 1, 5); most(0) = 6
            """);
        doc.says("by whom they are FOR: one of his is too far", """
            flake(0, 1, 15, 9, 5); flake(1, 1, 15, 5, 5); most(0) = 0; flake(2, 1, 6, 1, 5); most(0) = 1
            """);
        doc.says("by whom they are FOR: the one he can not get is no matter for others", """
            flake(0, 1, 0, 1, 5); flake(1, 1, 0, 1, 0); most(0) = 1; most(1) = 2
            """);
        doc.says("OUTSIDE", "most(-1) = OUTSIDE; most(2) = OUTSIDE; most(LEAST) = OUTSIDE; most(MOST) = OUTSIDE");
    }

    private static void mostByWhoever() {
        doc.promise(17);
        doc.says("by whoever: all eight FLAKES, six ONES", """
            flake(0..7, 1, 3, 9, 3); most(1) = 6; melt(0); melt(1); most(1) = 6; melt(2); most(1) = 5
            """);
        doc.says("by whoever: nobody can", """
            stand(0..5, 0); flake(0..7, 1, 15, 9, 0); most(0..1) = 0; stand(4, 6); most(1) = 1; most(0) = 0
            """);
        String apart = "stand(0..5, 15); stand(0, 4); stand(1, 0);";
        doc.says("by whoever: he who can get more leaves one to him who can get it alone", """
            stand(0..5, 15); stand(0, 4); stand(1, 0); flake(0, 1, 2, 2, 5); flake(1, 1, 6, 2, 5); most(1) = 2
            """, """
            stand(0..5, 15); stand(0, 4); stand(1, 0); flake(0, 1, 6, 2, 5); flake(1, 1, 2, 2, 5); most(1) = 2
            """, """
            stand(0..5, 15); stand(5, 4); stand(4, 0); flake(0, 1, 2, 2, 5); flake(1, 1, 6, 2, 5); most(1) = 2
            """, """
            stand(0..5, 15); stand(0, 0); stand(1, 2); stand(3, 8); flake(0, 1, 1, 1, 5); flake(1, 1, 8, 1, 5)
            flake(2, 1, 3, 1, 5); most(1) = 3
            """);
        doc.says("by whoever: a chain of three who make room", """
            stand(0..5, 15); stand(0, 1); stand(1, 3); stand(2, 5); flake(0, 1, 2, 1, 5); flake(1, 1, 4, 1, 5)
            flake(2, 1, 0, 1, 5); most(1) = 3
            """, """
            stand(0..5, 15); stand(0, 5); stand(1, 3); stand(2, 1); flake(0, 1, 4, 1, 5); flake(1, 1, 2, 1, 5)
            flake(2, 1, 6, 1, 5); most(1) = 3
            """);
        doc.says("by whoever: two who can get but the same one", """
            stand(0..5, 15); stand(0, 1); stand(1, 3); flake(0, 1, 2, 1, 5); flake(1, 1, 9, 1, 5); most(1) = 1
            """);
        doc.says("by whoever, each ONE one at the most", "stand(0..4, 15); flake(0..7, 1, 5, 1, 5); most(0..1) = 1");
    }

    private static void patch() {
        doc.promise(18);
        doc.says("PLACES where nobody stands: the most that are side by side; the first of them", """
            patch(0..1) = 10 6; stand(5, 9); patch(0..1) = 6 10; stand(5, 11); patch(0..1) = 6 5
            stand(5, 15); patch(0..1) = 10 5
            """);
        doc.says("the widest there can be", """
            stand(0..5, 0); patch(0..1) = 15 1; stand(0..5, 15); patch(0..1) = 15 0; stand(0..5, 8); patch(0..1) = 8 0
            stand(0..5, 7); patch(0..1) = 8 8
            """);
        doc.says("the narrowest there can be", """
            stand(0, 1); stand(1, 3); stand(2, 5); stand(3, 7); stand(4, 9); stand(5, 11); flake(0, 1, 13, 0, 0)
            flake(1, 1, 15, 0, 0)
            patch(0..1) = 1 0; flake(2, 1, 0, 0, 0); patch(0..1) = 1 2; flake(3, 1, 2, 0, 0); flake(4, 1, 4, 0, 0)
            flake(5, 1, 6, 0, 0)
            flake(6, 1, 8, 0, 0); patch(0..1) = 1 10; flake(7, 1, 10, 0, 0); patch(0..1) = 1 12
            """);
        doc.says("the first of them (the least)", """
            stand(0..5, 8); stand(0, 15); stand(1, 4); flake(0, 1, 11, 0, 0); patch(0..1) = 4 0
            stand(1, 3); patch(0..1) = 4 4
            """);
        doc.says("the last PLACES count", """
            stand(0..5, 0); stand(1, 12); flake(0, 1, 6, 0, 0); patch(0..1) = 5 1; flake(1, 1, 3, 0, 0)
            flake(2, 1, 9, 0, 0); patch(0..1) = 3 13
            """);
        doc.says("no FLAKE lies (with nobody, DOWN)", """
            flake(0, 1, 10, 0, 0); patch(0..1) = 5 11; flake(1, 1, 11, 0, 0); patch(0..1) = 4 6
            flake(2, 1, 7, 0, 0); patch(0..1) = 4 12
            """);
        doc.says("one that came DOWN with nobody lies", """
            flake(0, 1, 10, 1, 0); patch(0..1) = 10 6; say '.'; patch(0..1) = 10 6; done(); patch(0..1) = 5 11
            """);
        doc.says("one that is above 0 does not lie", "flake(0, 1, 10, 1, 0); flake(1, 1, 11, 9, 0); patch(0..1) = 10 6");
        doc.says("one that is with somebody does not lie", """
            flake(0, 1, 5, 1, 0); say '.F<F<'; done(); patch(0..1) = 11 5; flake(0, 1, 5, 0, 0); patch(0..1) = 10 6
            """);
        doc.says("one in the RIVER does not lie", """
            flake(0, 1, 0, 5, 0); flake(1, 1, 15, 5, 0); say '<>>'; done(); told(5) = 3; patch(0..1) = 10 6
            stand(0, 1); patch(0..1) = 10 6; stand(0..5, 8); patch(0..1) = 8 0
            """);
        doc.says("one that is no more does not lie", "flake(0, 1, 10, 0, 0); melt(0); patch(0..1) = 10 6");
        doc.says("an UMBRELLA is no matter", "say 'FuAu'; done(); patch(0..1) = 10 6");
        doc.says("as it is, not as the PAD says", "say 'F>F>'; patch(0..1) = 10 6; pad '?'; patch(0..1) = 10 6");
        doc.says("OUTSIDE", "patch(-1) = OUTSIDE; patch(2) = OUTSIDE; patch(LEAST) = OUTSIDE; patch(MOST) = OUTSIDE");
    }
}
