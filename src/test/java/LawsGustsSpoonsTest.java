/** Promises 19 to 25. */
public final class LawsGustsSpoonsTest {
    private static final Due due = new Due();

    public static void main(String[] args) {
        seen();
        forget();
        laws();
        look();
        gusts();
        gustsRefused();
        spoon();
        year();
        due.end();
    }

    private static void seen() {
        due.promise(19);
        FlakePost post = new FlakePost();
        due.is("seen(-1, 0)", post.seen(-1, 0), FlakePost.OUTSIDE);
        due.is("seen(256, 0)", post.seen(256, 0), FlakePost.OUTSIDE);
        due.is("seen(0, -1)", post.seen(0, -1), FlakePost.OUTSIDE);
        due.is("seen(0, 256)", post.seen(0, 256), FlakePost.OUTSIDE);
        due.is("told(4)", post.told(4), 0);
        for (int sight = 1; sight <= 8; sight++) {
            due.is("a sight more", post.seen(24, 60), sight);
        }
        due.is("the ninth", post.seen(0, 255), FlakePost.FULL);
        due.is("outside comes first", post.seen(0, 256), FlakePost.OUTSIDE);
        due.is("told(4)", post.told(4), 8);
        due.is("the ninth tells nothing", post.laws(-1), 8);
    }

    private static void forget() {
        due.promise(20);
        FlakePost post = new FlakePost();
        due.is("forget() of none", post.forget(), 0);
        post.seen(0, 0);
        post.seen(0, 255);
        due.is("laws(-1)", post.laws(-1), 0);
        due.is("forget()", post.forget(), 2);
        due.is("laws(-1)", post.laws(-1), 256);
        due.is("told(4)", post.told(4), 0);
        due.is("a sight more", post.seen(0, 0), 1);
        due.is("laws(-1)", post.laws(-1), 128);
    }

    private static void laws() {
        due.promise(21);
        FlakePost post = new FlakePost();
        for (int law = 0; law < 256; law++) {
            due.is("laws(" + law + ")", post.laws(law), law);
        }
        due.is("laws(256)", post.laws(256), FlakePost.NONE);
        due.is("laws(-2)", post.laws(-2), FlakePost.NONE);
        due.is("laws(LEAST)", post.laws(Integer.MIN_VALUE), FlakePost.NONE);
        due.is("laws(MOST)", post.laws(Integer.MAX_VALUE), FlakePost.NONE);
        post.seen(24, 60);
        int[] fitting = {90, 94, 122, 126, 218, 222, 250, 254};
        due.is("laws(-1)", post.laws(-1), 8);
        for (int i = 0; i < 8; i++) {
            due.is("laws(" + i + ")", post.laws(i), fitting[i]);
        }
        due.is("laws(8)", post.laws(8), FlakePost.NONE);
        post.seen(24, 61);
        due.is("none fits", post.laws(-1), 0);
        due.is("none fits", post.laws(0), FlakePost.NONE);
        due.is("none fits", post.laws(-2), FlakePost.NONE);
    }

    private static void look() {
        due.promise(22);
        FlakePost post = new FlakePost();
        due.is("look(-1)", post.look(-1), FlakePost.OUTSIDE);
        due.is("look(2)", post.look(2), FlakePost.OUTSIDE);
        due.is("look(0)", post.look(0), 46);
        due.is("look(1)", post.look(1), 1);
        post.seen(46, 77);
        due.is("nothing is left to learn: the least", post.look(0), 0);
        due.is("look(1)", post.look(1), 1);
        post.forget();
        post.seen(0, 0);
        post.seen(255, 255);
        due.is("look(0)", post.look(0), 10);
        due.is("look(1)", post.look(1), 1);
        post.seen(0, 255);
        due.is("no law fits", post.look(0), FlakePost.NONE);
        due.is("no law fits", post.look(1), FlakePost.NONE);
        due.is("outside comes first", post.look(2), FlakePost.OUTSIDE);
    }

    private static void chance(FlakePost post, int[] c, long upper, long lower) {
        due.is("gusts upper", post.gusts(c[0], c[1], c[2], c[3], c[4], 0), upper);
        due.is("gusts lower", post.gusts(c[0], c[1], c[2], c[3], c[4], 1), lower);
    }

    private static void gusts() {
        due.promise(23);
        FlakePost post = new FlakePost();
        chance(post, new int[] {5, 0, 3, 3, 5}, 1, 1);
        chance(post, new int[] {5, 0, 3, 3, 4}, 0, 1);
        chance(post, new int[] {5, 0, 3, 3, -1}, 0, 1);
        chance(post, new int[] {5, 1, 2, 3, 4}, 1, 5);
        chance(post, new int[] {5, 1, 2, 3, 6}, 3, 10);
        chance(post, new int[] {5, 1, 2, 3, 5}, 1, 2);
        chance(post, new int[] {5, 1, 2, 3, 7}, 0, 1);
        chance(post, new int[] {0, 1, 4, 3, -1}, 2, 5);
        chance(post, new int[] {15, 1, 4, 3, -1}, 3, 10);
        chance(post, new int[] {0, 2, 10, 0, -1}, 1, 1);
        chance(post, new int[] {0, 2, 5, 5, -1}, 1, 2);
        chance(post, new int[] {0, 3, 5, 5, -1}, 5, 8);
        chance(post, new int[] {8, 6, 0, 0, 8}, 1, 1);
        chance(post, new int[] {8, 6, 1, 0, 2}, 1, 1000000);
        chance(post, new int[] {8, 6, 0, 10, 14}, 1, 1);
        chance(post, new int[] {15, 6, 10, 0, 9}, 1, 1);
    }

    private static void gustsRefused() {
        due.promise(23);
        FlakePost post = new FlakePost();
        int[][] outside = {{-1, 0, 0, 0, 0, 0}, {16, 0, 0, 0, 0, 0}, {0, -1, 0, 0, 0, 0}, {0, 7, 0, 0, 0, 0},
            {0, 0, -1, 0, 0, 0}, {0, 0, 11, 0, 0, 0}, {0, 0, 0, -1, 0, 0}, {0, 0, 0, 11, 0, 0}, {0, 0, 6, 5, 0, 0},
            {0, 0, 0, 0, -2, 0}, {0, 0, 0, 0, 16, 0}, {0, 0, 0, 0, 0, -1}, {0, 0, 0, 0, 0, 2},
            {0, 0, Integer.MAX_VALUE, Integer.MAX_VALUE, 0, 0}};
        for (int[] c : outside) {
            due.is("gusts outside", post.gusts(c[0], c[1], c[2], c[3], c[4], c[5]), -1000000000000000002L);
        }
    }

    private static void spoon() {
        due.promise(24);
        FlakePost post = new FlakePost();
        int[] takes = {-6, 1, 1, 3, -6, 1, 1, 3};
        for (int n = 0; n < takes.length; n++) {
            due.is("spoon(" + n + ", 0)", post.spoon(n, 0), takes[n] < 0 ? 0 : 1);
            due.is("spoon(" + n + ", 1)", post.spoon(n, 1), takes[n]);
        }
        due.is("spoon(60, 0)", post.spoon(60, 0), 0);
        due.is("spoon(-1, 0)", post.spoon(-1, 0), FlakePost.OUTSIDE);
        due.is("spoon(61, 0)", post.spoon(61, 0), FlakePost.OUTSIDE);
        due.is("spoon(5, -1)", post.spoon(5, -1), FlakePost.OUTSIDE);
        due.is("spoon(5, 2)", post.spoon(5, 2), FlakePost.OUTSIDE);
    }

    private static void year() {
        due.promise(25);
        FlakePost post = new FlakePost();
        int[][] outside = {{-1, 1, 0}, {10000, 1, 0}, {0, 0, 0}, {0, 100, 0}, {0, 1, -1}, {0, 1, 3}};
        for (int[] c : outside) {
            due.is("year outside", post.year(c[0], c[1], c[2]), FlakePost.OUTSIDE);
        }
        due.is("year of none", post.year(9999, 99, 2), 0);
        // Seed 2: x is 224 (COLD), then 16874 (a wind west).
        post.flake(0, 24, 0, 9, 0);
        post.flake(1, 24, 5, 1, 5);
        due.is("above 0, the first act", post.year(2, 1, 2), 2);
        due.is("in the river, the first act", post.year(2, 1, 1), 0);
        due.is("in the river, the second act", post.year(2, 2, 1), 1);
        due.is("above 0, the second act", post.year(2, 2, 2), 1);
        // Seed 6: x is 524: they fall.
        due.is("posted, they fall", post.year(6, 1, 0), 1);
        due.is("above 0, they fall", post.year(6, 1, 2), 1);
        String before = Due.shown(post);
        Due.pad(post, "A");
        due.is("a fault on the pad is no matter", post.year(6, 1, 0), 1);
        post.wipe();
        due.holds("nothing is done in fact", before.equals(Due.shown(post)));
        // A flake that is with whom it is for stays so, whatever the year.
        Due.pad(post, ".");
        post.done();
        due.is("posted from before", post.year(9999, 99, 0) >= 1 ? 1 : 0, 1);
    }
}
