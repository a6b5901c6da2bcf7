/** Promises 26 to 28. */
public final class ImagesTest {
    private static final Due due = new Due();

    public static void main(String[] args) {
        image();
        restore();
        told();
        due.end();
    }

    private static FlakePost full() {
        FlakePost post = new FlakePost();
        post.flake(0, 24, 2, 1, 2);
        post.flake(6, 7, 0, 2, 5);
        post.flake(7, 129, 9, 9, 4);
        post.stand(5, 13);
        post.air(0, 110);
        post.air(1, 54);
        post.seen(24, 60);
        Due.pad(post, ".EuA>A>A><");
        due.is("done()", post.done(), 6);
        post.say('x');
        post.say('y');
        return post;
    }

    private static void disturb(FlakePost post) {
        post.melt(0);
        post.flake(1, 1, 1, 1, 1);
        post.flake(6, 3, 3, 3, 3);
        for (int one = 0; one < 6; one++) {
            post.stand(one, 15 - one);
        }
        post.air(0, 1);
        post.air(1, 2);
        post.seen(1, 2);
        post.seen(1, 3);
    }

    private static void image() {
        due.promise(26);
        FlakePost post = full();
        String before = Due.shown(post);
        due.is("image(-1)", post.image(-1), FlakePost.OUTSIDE);
        due.is("image(2)", post.image(2), FlakePost.OUTSIDE);
        due.is("restore(0): none was kept", post.restore(0), FlakePost.STATE);
        due.is("image(1)", post.image(1), 1);
        due.holds("an image changes nothing", before.equals(Due.shown(post)));
        disturb(post);
        due.is("image(0)", post.image(0), 1);
        String disturbed = Due.shown(post);
        post.restore(1);
        due.holds("all is as it was in 1", before.equals(Due.shown(post)));
        post.restore(0);
        due.holds("all is as it was in 0", disturbed.equals(Due.shown(post)));
        post.image(1);
        post.forget();
        post.restore(1);
        due.holds("anew kept", disturbed.equals(Due.shown(post)));
    }

    private static void restore() {
        due.promise(27);
        FlakePost post = full();
        due.is("restore(-1)", post.restore(-1), FlakePost.OUTSIDE);
        due.is("restore(2)", post.restore(2), FlakePost.OUTSIDE);
        due.is("restore(0)", post.restore(0), FlakePost.STATE);
        post.image(0);
        due.is("restore(1)", post.restore(1), FlakePost.STATE);
        String before = Due.shown(post);
        disturb(post);
        due.is("restore(0)", post.restore(0), 1);
        due.holds("all is as it was", before.equals(Due.shown(post)));
        disturb(post);
        due.is("restore(0) again", post.restore(0), 1);
        due.holds("all is as it was again", before.equals(Due.shown(post)));
        post.say('z');
        post.restore(0);
        due.is("the pad stays", post.told(0), 3);
        due.is("laws(-1)", post.laws(-1), 8);
    }

    private static void told() {
        due.promise(28);
        FlakePost post = full();
        int[] whats = {0, 1, 2, 3, 4, 5, 10, 11, 12, 13, 14, 70, 71, 72, 73, 74, 80, 81, 82, 83, 84,
            100, 101, 110, 111, 140, 141, 150, 151};
        int[] wants = {2, 193, 110, 54, 1, 64, 24, 2, 0, 2, 2, 7, -6, 0, 5, -6, 129, 8, 8, 4, -6,
            3, 0, 1, 0, 4, 1, 13, 0};
        for (int i = 0; i < whats.length; i++) {
            due.is("told(" + whats[i] + ")", post.told(whats[i]), wants[i]);
        }
        int[] outside = {-1, 6, 7, 8, 9, 15, 19, 20, 24, 30, 75, 79, 85, 89, 90, 94, 99, 102, 109, 152, 160, 161, 1000,
            Integer.MAX_VALUE, Integer.MIN_VALUE, -10, -100};
        for (int what : outside) {
            due.is("told(" + what + ")", post.told(what), FlakePost.OUTSIDE);
        }
    }
}
