/** Promises 15 to 18. */
public final class AirsPatchesTest {
    private static final Due due = new Due();

    public static void main(String[] args) {
        grew();
        soon();
        most();
        patch();
        due.end();
    }

    private static void grew() {
        due.promise(15);
        FlakePost post = new FlakePost();
        due.is("grew(7, 7, 0, 0)", post.grew(7, 7, 0, 0), 1);
        due.is("grew(7, 7, 0, 1)", post.grew(7, 7, 0, 1), 0);
        due.is("grew(7, 8, 0, 0)", post.grew(7, 8, 0, 0), 0);
        due.is("grew(7, 8, 0, 1)", post.grew(7, 8, 0, 1), FlakePost.NONE);
        due.is("grew(24, 60, 1, 1)", post.grew(24, 60, 1, 1), 1);
        due.is("grew(24, 98, 2, 1)", post.grew(24, 98, 2, 1), 12);
        post.air(0, 0);
        post.air(1, 255);
        due.is("only the last air matters", post.grew(9, 255, 10, 0), 512);
        due.is("the first of them", post.grew(9, 255, 10, 1), 1111111112L);
        due.is("the first to 0", post.grew(9, 0, 10, 1), 1111111111L);
        due.is("none", post.grew(9, 1, 10, 0), 0);
        due.is("the first of none", post.grew(9, 1, 10, 1), FlakePost.NONE);
        post.air(0, 204);
        post.air(1, 170);
        due.is("seven of ten are damp", post.grew(1, 128, 10, 0), 120);
        due.is("first the cold ones", post.grew(1, 128, 10, 1), 1112222222L);
        post.air(0, 170);
        due.is("no way in six", post.grew(1, 128, 6, 1), FlakePost.NONE);
        post.air(0, 0);
        due.is("all damp", post.grew(1, 128, 7, 1), 2222222L);
        int[][] outside = {{-1, 0, 0, 0}, {256, 0, 0, 0}, {0, -1, 0, 0}, {0, 256, 0, 0}, {0, 0, -1, 0}, {0, 0, 11, 0},
            {0, 0, 0, -1}, {0, 0, 0, 2}, {0, 0, Integer.MAX_VALUE, 0}};
        for (int[] c : outside) {
            due.is("grew outside", post.grew(c[0], c[1], c[2], c[3]), FlakePost.OUTSIDE);
        }
    }

    private static void soon() {
        due.promise(16);
        FlakePost post = new FlakePost();
        due.is("soon(24, 24)", post.soon(24, 24), 0);
        due.is("soon(24, 60)", post.soon(24, 60), 1);
        due.is("soon(24, 98)", post.soon(24, 98), 2);
        post.air(0, 204);
        post.air(1, 170);
        due.is("soon(1, 128)", post.soon(1, 128), 7);
        due.is("soon(128, 1)", post.soon(128, 1), FlakePost.NONE);
        post.air(1, 240);
        due.is("soon(128, 1)", post.soon(128, 1), 7);
        due.is("soon(0, 0)", post.soon(0, 0), 0);
        due.is("soon(0, 1)", post.soon(0, 1), FlakePost.NONE);
        due.is("soon(-1, 0)", post.soon(-1, 0), FlakePost.OUTSIDE);
        due.is("soon(256, 0)", post.soon(256, 0), FlakePost.OUTSIDE);
        due.is("soon(0, -1)", post.soon(0, -1), FlakePost.OUTSIDE);
        due.is("soon(0, 256)", post.soon(0, 256), FlakePost.OUTSIDE);
    }

    private static void most() {
        due.promise(17);
        FlakePost post = new FlakePost();
        due.is("most(0) of none", post.most(0), 0);
        due.is("most(1) of none", post.most(1), 0);
        post.flake(0, 0, 9, 4, 5);
        due.is("just in time", post.most(0), 1);
        post.flake(0, 0, 9, 3, 5);
        due.is("too late", post.most(0), 0);
        due.is("too late for all", post.most(1), 0);
        post.flake(0, 0, 5, 0, 5);
        due.is("one that lies can not be got", post.most(1), 0);
        post.flake(0, 0, 5, 1, 5);
        post.flake(1, 0, 5, 2, 5);
        due.is("each gets one at the most", post.most(0), 1);
        due.is("another one gets the other one", post.most(1), 2);
        Due.pad(post, "EuFu");
        post.done();
        due.is("umbrellas are no matter", post.most(1), 2);
        FlakePost crossed = new FlakePost();
        for (int one = 0; one < 6; one++) {
            crossed.stand(one, one < 3 ? 0 : 15);
        }
        crossed.flake(0, 0, 1, 1, 0);
        crossed.flake(1, 0, 2, 2, 0);
        crossed.flake(2, 0, 0, 1, 1);
        crossed.flake(3, 0, 0, 1, 1);
        due.is("most(0)", crossed.most(0), 2);
        due.is("three can go there", crossed.most(1), 3);
        crossed.flake(4, 0, 8, 9, 3);
        due.is("most(0)", crossed.most(0), 3);
        due.is("most(1)", crossed.most(1), 4);
        due.is("most(-1)", crossed.most(-1), FlakePost.OUTSIDE);
        due.is("most(2)", crossed.most(2), FlakePost.OUTSIDE);
        Due.pad(crossed, "<<<");
        crossed.done();
        due.is("those in the river can not be got", crossed.most(1), 1);
    }

    private static void patch() {
        due.promise(18);
        FlakePost post = new FlakePost();
        due.is("patch(0)", post.patch(0), 10);
        due.is("patch(1)", post.patch(1), 6);
        post.flake(0, 0, 11, 1, 0);
        due.is("one above is no matter", post.patch(0), 10);
        Due.pad(post, ".");
        post.done();
        due.is("one lies at 11", post.patch(0), 5);
        due.is("the first of them", post.patch(1), 6);
        post.flake(1, 0, 10, 0, 0);
        due.is("patch(0)", post.patch(0), 4);
        due.is("the first of two as wide", post.patch(1), 6);
        post.flake(2, 0, 6, 0, 0);
        due.is("patch(1)", post.patch(1), 12);
        post.stand(0, 15);
        due.is("patch(0)", post.patch(0), 3);
        due.is("patch(1)", post.patch(1), 7);
        FlakePost held = new FlakePost();
        held.flake(0, 0, 5, 1, 0);
        Due.pad(held, ".F<F<");
        held.done();
        due.is("one that is with somebody does not lie", held.patch(1), 5);
        due.is("patch(0)", held.patch(0), 11);
        FlakePost full = new FlakePost();
        int[] ones = {1, 3, 5, 7, 9, 11};
        for (int one = 0; one < 6; one++) {
            full.stand(one, ones[one]);
        }
        int[] places = {13, 15, 0, 2, 4, 6, 8, 10};
        for (int flake = 0; flake < 8; flake++) {
            full.flake(flake, 0, places[flake], 0, 0);
        }
        due.is("patch(0) of the fullest", full.patch(0), 1);
        due.is("patch(1) of the fullest", full.patch(1), 12);
        due.is("patch(-1)", full.patch(-1), FlakePost.OUTSIDE);
        due.is("patch(2)", full.patch(2), FlakePost.OUTSIDE);
    }
}
