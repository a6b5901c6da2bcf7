/** Promises 9 to 14. */
public final class DaysTest {
    private static final Due due = new Due();

    public static void main(String[] args) {
        judge();
        judgeReasons();
        cameDown();
        behind();
        stands();
        catchers();
        posted();
        done();
        refusalOrder();
        says();
        due.end();
    }

    private static void judge() {
        due.promise(9);
        FlakePost post = new FlakePost();
        due.is("judge(-1)", post.judge(-1), FlakePost.OUTSIDE);
        due.is("judge(3)", post.judge(3), FlakePost.OUTSIDE);
        due.is("judge(0) of no acts", post.judge(0), FlakePost.NONE);
        due.is("judge(1) of no acts", post.judge(1), FlakePost.NONE);
        due.is("judge(2) of no acts", post.judge(2), 0);
        Due.pad(post, "A");
        due.is("judge(3), a fault", post.judge(3), FlakePost.OUTSIDE);
        for (int what = 0; what < 3; what++) {
            due.is("judge, a fault", post.judge(what), FlakePost.NO);
        }
        post.say('u');
        due.is("judge(0)", post.judge(0), FlakePost.NONE);
        due.is("judge(1)", post.judge(1), FlakePost.NONE);
        Due.pad(post, "AuA<");
        due.is("judge(0), the second act", post.judge(0), 1);
        due.is("judge(1)", post.judge(1), 1);
        due.is("judge(2)", post.judge(2), FlakePost.STATE);
        Due.pad(post, "A<?");
        due.is("a fault comes ahead of an act that can not be", post.judge(0), FlakePost.NO);
    }

    private static void judgeReasons() {
        due.promise(9);
        FlakePost post = new FlakePost();
        for (char sign : "cd<>.".toCharArray()) {
            Due.pad(post, "Bu" + sign);
            due.is("judge(0) of " + sign, post.judge(0), 1);
            due.is("judge(1) of " + sign, post.judge(1), 2);
        }
        post.flake(0, 1, 8, 0, 0);
        Due.pad(post, "c");
        due.is("one that lies does not fall", post.judge(1), 2);
        post.flake(1, 1, 15, 1, 0);
        Due.pad(post, "c>c");
        due.is("one in the river does not fall", post.judge(0), 2);
        due.is("judge(1)", post.judge(1), 2);
        Due.pad(post, "..");
        due.is("one that came down does not fall", post.judge(0), 1);
        post.stand(5, 15);
        Due.pad(post, "F>");
        due.is("into the river in the east", post.judge(1), 1);
        Due.pad(post, "F<F>F>");
        due.is("the third step", post.judge(0), 2);
        Due.pad(post, "A<..");
        due.is("the first of two", post.judge(0), 0);
        due.is("the first one's reason", post.judge(1), 1);
    }

    private static void cameDown() {
        due.promise(9);
        FlakePost post = new FlakePost();
        post.flake(0, 1, 0, 1, 0);
        post.flake(1, 1, 9, 1, 0);
        post.flake(2, 1, 14, 2, 0);
        post.flake(3, 1, 10, 0, 0);
        Due.pad(post, ".");
        due.is("judge(2)", post.judge(2), 2);
        post.say('.');
        due.is("judge(2)", post.judge(2), 3);
        Due.pad(post, ".>>");
        due.is("one in the river did not come down", post.judge(2), 2);
        Due.pad(post, ".");
        post.done();
        due.is("what came down ahead does not count", post.judge(2), 0);
        Due.pad(post, ".");
        due.is("judge(2)", post.judge(2), 1);
    }

    private static void behind() {
        due.promise(10);
        FlakePost post = new FlakePost();
        post.flake(0, 24, 3, 2, 0);
        post.flake(1, 24, 1, 1, 5);
        post.flake(2, 24, 12, 0, 5);
        Due.pad(post, "c<.");
        due.is("arm", post.behind(0, 0), 60);
        due.is("place", post.behind(0, 1), 2);
        due.is("height", post.behind(0, 2), 1);
        due.is("with", post.behind(0, 3), FlakePost.NONE);
        due.is("place of 1", post.behind(1, 1), 0);
        due.is("height of 1", post.behind(1, 2), 0);
        due.is("1 is with", post.behind(1, 3), 0);
        due.is("one that lies does not grow", post.behind(2, 0), 24);
        due.is("nor is it blown", post.behind(2, 1), 12);
        post.say('>');
        due.is("one that is down is not blown", post.behind(1, 1), 0);
        due.is("one above is", post.behind(0, 1), 3);
        Due.pad(post, "<<");
        due.is("place in the river", post.behind(1, 1), FlakePost.NONE);
        due.is("height in the river", post.behind(1, 2), 0);
        due.is("with in the river", post.behind(1, 3), FlakePost.NONE);
        due.is("arm in the river", post.behind(1, 0), 24);
        Due.pad(post, "<<c");
        due.is("one in the river does not grow", post.behind(1, 0), 24);
        Due.pad(post, ".A>A>");
        due.is("what is with him stays when he goes", post.behind(1, 3), 1);
        due.is("behind(0, -1)", post.behind(0, -1), FlakePost.OUTSIDE);
        due.is("behind(0, 4)", post.behind(0, 4), FlakePost.OUTSIDE);
        due.is("behind(3, 0)", post.behind(3, 0), FlakePost.UNKNOWN);
        due.is("behind(-1, 4)", post.behind(-1, 4), FlakePost.UNKNOWN);
        due.is("behind(8, 0)", post.behind(8, 0), FlakePost.UNKNOWN);
        due.is("nothing is changed", post.told(12), 2);
    }

    private static void stands() {
        due.promise(11);
        FlakePost post = new FlakePost();
        post.flake(3, 0, 2, 1, 0);
        post.flake(6, 0, 2, 2, 0);
        Due.pad(post, "..C>CuF<");
        due.is("place", post.stands(2, 0), 3);
        due.is("umbrella", post.stands(2, 1), 1);
        due.is("flakes", post.stands(2, 2), 72);
        due.is("place of F", post.stands(5, 0), 4);
        due.is("umbrella of F", post.stands(5, 1), 0);
        due.is("flakes of F", post.stands(5, 2), 0);
        Due.pad(post, "CuCu");
        due.is("up and not any more", post.stands(2, 1), 0);
        due.is("stands(-1, 0)", post.stands(-1, 0), FlakePost.UNKNOWN);
        due.is("stands(6, 3)", post.stands(6, 3), FlakePost.UNKNOWN);
        due.is("stands(0, 3)", post.stands(0, 3), FlakePost.OUTSIDE);
        due.is("stands(0, -1)", post.stands(0, -1), FlakePost.OUTSIDE);
    }

    private static void catchers() {
        due.promise(11);
        FlakePost post = new FlakePost();
        post.flake(0, 0, 1, 1, 0);
        Due.pad(post, ".");
        due.is("with who stands there", post.behind(0, 3), 1);
        Due.pad(post, "A>.");
        due.is("with the least who stands there", post.behind(0, 3), 0);
        Due.pad(post, "A>Au.");
        due.is("not with an umbrella", post.behind(0, 3), 1);
        Due.pad(post, "A>AuBu.");
        due.is("all have umbrellas: it lies", post.behind(0, 3), FlakePost.NONE);
        Due.pad(post, "Bu.Bu");
        due.is("the umbrella went too late", post.behind(0, 3), FlakePost.NONE);
        Due.pad(post, "B>.B<");
        due.is("he came too late", post.behind(0, 3), FlakePost.NONE);
        Due.pad(post, ".Bu");
        due.is("an umbrella takes nothing away", post.behind(0, 3), 1);
    }

    private static void posted() {
        due.promise(12);
        FlakePost post = new FlakePost();
        due.is("posted(0) of none", post.posted(0), 0);
        due.is("posted(1) of none", post.posted(1), FlakePost.NONE);
        due.is("posted(2) of none", post.posted(2), 0);
        due.is("posted(-1)", post.posted(-1), FlakePost.OUTSIDE);
        due.is("posted(3)", post.posted(3), FlakePost.OUTSIDE);
        post.flake(0, 0, 1, 1, 0);
        post.flake(4, 0, 4, 2, 4);
        post.flake(5, 0, 15, 3, 4);
        Due.pad(post, "Fu..>");
        due.is("posted(0)", post.posted(0), 16);
        due.is("posted(1)", post.posted(1), 2);
        due.is("posted(2)", post.posted(2), 1);
        Due.pad(post, ".");
        due.is("with another one is not posted", post.posted(0), 0);
        due.is("posted(1)", post.posted(1), FlakePost.NONE);
        Due.pad(post, "..");
        post.done();
        due.is("those of earlier days are posted", post.posted(0), 16);
        due.is("but none came so now", post.posted(1), FlakePost.NONE);
        post.flake(1, 0, 2, 1, 2);
        Due.pad(post, "A>c.");
        due.is("another one comes", post.posted(1), 2);
        due.is("posted(0)", post.posted(0), 18);
        Due.pad(post, ">");
        post.done();
        due.is("in the river from before", post.posted(2), 1);
        Due.pad(post, "<<<<");
        due.is("in the river from before and now", post.posted(2), 2);
    }

    private static void done() {
        due.promise(13);
        FlakePost post = new FlakePost();
        due.is("done() of no acts", post.done(), 0);
        post.flake(0, 24, 2, 1, 2);
        Due.pad(post, "A");
        due.is("done(), a fault", post.done(), FlakePost.NO);
        due.is("the pad stays", post.told(0), 1);
        Due.pad(post, "c..");
        String before = Due.shown(post);
        due.is("done(), an act can not be", post.done(), FlakePost.STATE);
        due.holds("nothing is changed", before.equals(Due.shown(post)));
        Due.pad(post, "c.DuA>");
        due.is("done()", post.done(), 4);
        due.is("the pad is empty", post.told(0), 0);
        due.is("arm", post.told(10), 60);
        due.is("place", post.told(11), 2);
        due.is("height", post.told(12), 0);
        due.is("for", post.told(13), 2);
        due.is("with", post.told(14), 2);
        due.is("umbrella", post.told(131), 1);
        due.is("place of A", post.told(100), 1);
        due.is("done() again", post.done(), 0);
    }

    private static void refusalOrder() {
        FlakePost post = new FlakePost();
        post.flake(0, 1, 1, 1, 1);
        Due.pad(post, "x");
        int[] wants = {FlakePost.NO, FlakePost.STATE};
        for (int want : wants) {
            due.promise(10);
            due.is("behind", post.behind(0, 0), want);
            due.is("behind unknown", post.behind(1, 0), FlakePost.UNKNOWN);
            due.is("behind outside", post.behind(0, 4), FlakePost.OUTSIDE);
            due.promise(11);
            due.is("stands", post.stands(0, 0), want);
            due.is("stands unknown", post.stands(6, 0), FlakePost.UNKNOWN);
            due.is("stands outside", post.stands(0, 3), FlakePost.OUTSIDE);
            due.promise(12);
            due.is("posted", post.posted(0), want);
            due.is("posted outside", post.posted(3), FlakePost.OUTSIDE);
            due.promise(13);
            due.is("done", post.done(), want);
            Due.pad(post, "A<");
        }
    }

    private static void says() {
        due.promise(14);
        int[] arms = {0, 255, 170, 85, 15, 240, 1, 128, 24, 254, 126, 3};
        int[] said = {8, 8, 11111111, 11111111, 44, 44, 17, 71, 323, 17, 161, 26};
        FlakePost post = new FlakePost();
        for (int i = 0; i < arms.length; i++) {
            due.is("says(" + arms[i] + ")", post.says(arms[i]), said[i]);
        }
        due.is("says(-1)", post.says(-1), FlakePost.OUTSIDE);
        due.is("says(256)", post.says(256), FlakePost.OUTSIDE);
        due.is("says(LEAST)", post.says(Integer.MIN_VALUE), FlakePost.OUTSIDE);
    }
}
