/** Promises 1 to 8. */
public final class FlakesOnesAirsTest {
    private static final Due due = new Due();
    private static final int LEAST = Integer.MIN_VALUE, MOST = Integer.MAX_VALUE;

    public static void main(String[] args) {
        newObject();
        flake();
        flakeRefusals();
        melt();
        stand();
        air();
        say();
        wipe();
        fault();
        due.end();
    }

    private static void newObject() {
        due.promise(1);
        FlakePost post = new FlakePost();
        due.is("told(0)", post.told(0), 0);
        due.is("told(1)", post.told(1), 0);
        due.is("told(2)", post.told(2), 90);
        due.is("told(3)", post.told(3), 30);
        due.is("told(4)", post.told(4), 0);
        due.is("told(5)", post.told(5), 0);
        for (int one = 0; one < 6; one++) {
            due.is("place of " + one, post.told(100 + 10 * one), one);
            due.is("umbrella of " + one, post.told(101 + 10 * one), 0);
        }
        due.is("fault()", post.fault(), FlakePost.NONE);
        due.is("laws(-1)", post.laws(-1), 256);
        due.is("restore(0)", post.restore(0), FlakePost.STATE);
        due.is("restore(1)", post.restore(1), FlakePost.STATE);
    }

    private static void flake() {
        due.promise(2);
        FlakePost post = new FlakePost();
        due.is("flake(0, ...)", post.flake(0, 0, 0, 0, 0), 1);
        due.is("flake(7, ...)", post.flake(7, 255, 15, 9, 5), 2);
        due.is("flake(7, ...) anew", post.flake(7, 17, 14, 8, 4), 2);
        due.is("arm", post.told(80), 17);
        due.is("place", post.told(81), 14);
        due.is("height", post.told(82), 8);
        due.is("for", post.told(83), 4);
        due.is("with", post.told(84), FlakePost.NONE);
        due.is("one that lies where a ONE stands is with nobody", post.told(14), FlakePost.NONE);
        Due.pad(post, "B<.");
        post.flake(1, 3, 0, 1, 1);
        Due.pad(post, "AuB<.");
        due.is("done()", post.done(), 3);
        due.is("with B", post.told(24), 1);
        due.is("anew", post.flake(1, 3, 5, 2, 1), 3);
        due.is("anew it is with nobody", post.told(24), FlakePost.NONE);
        Due.pad(post, "<<<<<<");
        post.done();
        due.is("in the river", post.told(5), 2);
        post.flake(1, 3, 5, 2, 1);
        due.is("anew it is out of the river", post.told(5), 0);
    }

    private static void flakeRefusals() {
        due.promise(2);
        FlakePost post = new FlakePost();
        post.flake(3, 1, 2, 3, 4);
        String before = Due.shown(post);
        int[][] unknown = {{-1, 0, 0, 0, 0}, {8, 0, 0, 0, 0}, {0, 0, 0, 0, -1}, {0, 0, 0, 0, 6}, {0, 256, 16, 10, 6},
            {LEAST, 0, 0, 0, 0}, {MOST, 0, 0, 0, 0}, {0, 0, 0, 0, LEAST}, {0, 0, 0, 0, MOST}, {8, -1, 0, 0, 0}};
        for (int[] c : unknown) {
            due.is("flake of an unknown", post.flake(c[0], c[1], c[2], c[3], c[4]), FlakePost.UNKNOWN);
        }
        int[][] outside = {{0, -1, 0, 0, 0}, {0, 256, 0, 0, 0}, {0, 0, -1, 0, 0}, {0, 0, 16, 0, 0}, {0, 0, 0, -1, 0},
            {0, 0, 0, 10, 0}, {3, LEAST, 0, 0, 0}, {3, 0, MOST, 0, 0}, {3, 0, 0, MOST, 0}};
        for (int[] c : outside) {
            due.is("flake outside", post.flake(c[0], c[1], c[2], c[3], c[4]), FlakePost.OUTSIDE);
        }
        due.holds("refused flakes change nothing", before.equals(Due.shown(post)));
    }

    private static void melt() {
        due.promise(3);
        FlakePost post = new FlakePost();
        due.is("melt(0)", post.melt(0), FlakePost.UNKNOWN);
        post.flake(0, 1, 0, 1, 0);
        post.flake(5, 2, 3, 4, 5);
        due.is("melt(-1)", post.melt(-1), FlakePost.UNKNOWN);
        due.is("melt(8)", post.melt(8), FlakePost.UNKNOWN);
        due.is("melt(32)", post.melt(32), FlakePost.UNKNOWN);
        due.is("melt(MOST)", post.melt(MOST), FlakePost.UNKNOWN);
        due.is("melt(5)", post.melt(5), 1);
        due.is("melt(5) again", post.melt(5), FlakePost.UNKNOWN);
        due.is("told(60)", post.told(60), FlakePost.OUTSIDE);
        Due.pad(post, ".");
        post.done();
        due.is("posted(0)", post.posted(0), 1);
        due.is("melt(0)", post.melt(0), 0);
        due.is("posted(0) without it", post.posted(0), 0);
        due.is("stands(0, 2) without it", post.stands(0, 2), 0);
        post.flake(1, 1, 0, 5, 0);
        post.melt(1);
        due.is("a melted one falls no more", post.most(1), 0);
        Due.pad(post, ".");
        due.is("judge(1)", post.judge(1), 2);
        post.flake(2, 1, 0, 5, 0);
        Due.pad(post, "<");
        post.done();
        due.is("told(5)", post.told(5), 4);
        post.melt(2);
        due.is("told(5) without it", post.told(5), 0);
    }

    private static void stand() {
        due.promise(4);
        FlakePost post = new FlakePost();
        due.is("stand(0, 15)", post.stand(0, 15), 0);
        due.is("stand(0, 0)", post.stand(0, 0), 15);
        due.is("stand(5, 5)", post.stand(5, 5), 5);
        due.is("stand(-1, 0)", post.stand(-1, 0), FlakePost.UNKNOWN);
        due.is("stand(6, 16)", post.stand(6, 16), FlakePost.UNKNOWN);
        due.is("stand(0, -1)", post.stand(0, -1), FlakePost.OUTSIDE);
        due.is("stand(0, 16)", post.stand(0, 16), FlakePost.OUTSIDE);
        post.flake(0, 1, 2, 1, 3);
        Due.pad(post, ".CuDu");
        post.done();
        due.is("told(14)", post.told(14), 2);
        due.is("refused, the umbrella stays", post.stand(2, 99), FlakePost.OUTSIDE);
        due.is("told(121)", post.told(121), 1);
        due.is("stand(2, 9)", post.stand(2, 9), 2);
        due.is("his umbrella is not up then", post.told(121), 0);
        due.is("another one's is as it was", post.told(131), 1);
        due.is("what is with him stays", post.told(14), 2);
        due.is("the flake's place is its own", post.told(11), 2);
    }

    private static void air() {
        due.promise(5);
        FlakePost post = new FlakePost();
        due.is("air(0, 255)", post.air(0, 255), 90);
        due.is("air(0, 0)", post.air(0, 0), 255);
        due.is("air(1, 110)", post.air(1, 110), 30);
        due.is("told(2)", post.told(2), 0);
        due.is("told(3)", post.told(3), 110);
        due.is("air(-1, 0)", post.air(-1, 0), FlakePost.OUTSIDE);
        due.is("air(2, 0)", post.air(2, 0), FlakePost.OUTSIDE);
        due.is("air(0, -1)", post.air(0, -1), FlakePost.OUTSIDE);
        due.is("air(1, 256)", post.air(1, 256), FlakePost.OUTSIDE);
        due.is("told(2)", post.told(2), 0);
        due.is("told(3)", post.told(3), 110);
        post.air(0, 16);
        post.air(1, 2);
        post.flake(0, 1, 0, 9, 0);
        post.flake(1, 128, 0, 9, 0);
        Due.pad(post, "c");
        due.is("the next cell counts 4", post.behind(1, 0), 64);
        due.is("beyond the arm is 0", post.behind(0, 0), 0);
        Due.pad(post, "d");
        due.is("the one ahead counts 1", post.behind(0, 0), 2);
        due.is("beyond the arm is 0", post.behind(1, 0), 0);
    }

    private static void say() {
        due.promise(6);
        FlakePost post = new FlakePost();
        due.is("say(32)", post.say(32), FlakePost.OUTSIDE);
        due.is("say(127)", post.say(127), FlakePost.OUTSIDE);
        due.is("say(LEAST)", post.say(LEAST), FlakePost.OUTSIDE);
        due.is("say(33)", post.say(33), 1);
        due.is("say(126)", post.say(126), 2);
        for (int sign = 3; sign <= 60; sign++) {
            due.is("a sign more", post.say('A'), sign);
        }
        due.is("the 61st", post.say('A'), FlakePost.FULL);
        due.is("outside comes first", post.say(127), FlakePost.OUTSIDE);
        due.is("told(0)", post.told(0), 60);
    }

    private static void wipe() {
        due.promise(7);
        FlakePost post = new FlakePost();
        due.is("wipe() of none", post.wipe(), 0);
        post.say('A');
        post.say('?');
        due.is("wipe()", post.wipe(), 2);
        due.is("told(0)", post.told(0), 0);
        due.is("fault()", post.fault(), FlakePost.NONE);
    }

    private static void fault() {
        due.promise(8);
        String[] texts = {"", "c", "d", "<", ">", ".", "A<", "F>", "Bu", "cd<>.A<B>Cu", "A", "cA", "u", "a", "G", "@", "AA", "A.",
            "Ac", "Bd", "c?A", "A<B", "A<B!", "C", "D", "Au<u", "<A>>u", "AU", "F"};
        int[] faults = {-6, -6, -6, -6, -6, -6, -6, -6, -6, -6, 1, 2, 0, 0, 0, 0, 1, 1,
            1, 1, 1, 3, 3, 1, 1, 3, 4, 1, 1};
        FlakePost post = new FlakePost();
        for (int i = 0; i < texts.length; i++) {
            Due.pad(post, texts[i]);
            due.is("fault() of '" + texts[i] + "'", post.fault(), faults[i]);
        }
        FlakePost full = new FlakePost();
        for (int sign = 0; sign < 59; sign++) {
            full.say('.');
        }
        full.say('A');
        due.is("fault() of a full pad", full.fault(), 60);
    }
}
