/** Counts and prints the answers that are not as due; every test of the project ends by it. */
final class Due {
    private int wrong = 0;
    private int looked = 0;
    private String promise = "";

    void promise(int number) {
        promise = "promise " + number + ": ";
    }

    void is(String call, long got, long want) {
        looked++;
        if (got != want) {
            wrong++;
            System.out.println(promise + call + " answered " + got + ", due is " + want);
        }
    }

    void holds(String claim, boolean stands) {
        is(claim, stands ? 1 : 0, 1);
    }

    int wrong() {
        return wrong;
    }

    void end() {
        System.out.println(looked + " answers looked at, " + wrong + " not as due");
        if (wrong != 0 || looked == 0) {
            System.exit(1);
        }
    }

    /** Says all signs of a text on an empty PAD. */
    static void pad(FlakePost post, String text) {
        post.wipe();
        for (int at = 0; at < text.length(); at++) {
            post.say(text.charAt(at));
        }
    }

    /** Calls that answer a refusal must leave all that told, laws and fault show as it was. */
    static String shown(FlakePost post) {
        StringBuilder all = new StringBuilder();
        for (int what = -1; what < 170; what++) {
            all.append(post.told(what)).append(' ');
        }
        return all.append(post.laws(-1)).append(' ').append(post.laws(0)).append(' ').append(post.fault()).toString();
    }
}
