import java.util.Random;

/** Long runs of drawn calls, each answer held against the Model's. The seeds are fixed: all runs are the same always. */
public final class ModelTest {
    /** What an object answers behind its 512th call is free: the last calls of each are kept for what it tells at its end. */
    private static final int RUNS = 900, CALLS = 512, AT_THE_END = 66, LONG_DAYS = 600;
    private static final Due due = new Due();

    private final FlakePost called = new FlakePost();
    private int calls = 0;
    private final Model model = new Model();
    private final Random random;
    private final boolean wild;

    private ModelTest(int seed) {
        random = new Random(seed);
        wild = seed % 4 == 0;
    }

    public static void main(String[] args) {
        for (int seed = 0; seed < RUNS && due.wrong() < 20; seed++) {
            ModelTest test = new ModelTest(seed);
            while (test.calls < CALLS - AT_THE_END && due.wrong() < 20) {
                test.callOne("run " + seed + ", call " + test.calls + ": ");
            }
            test.compareTold("run " + seed + ", at its end: ");
            due.holds("run " + seed + ": " + test.calls + " calls", test.calls <= CALLS);
        }
        for (int seed = 0; seed < LONG_DAYS; seed++) {
            new ModelTest(seed).longDays("long days " + seed + ": ");
        }
        everyLaw();
        everyGrowth();
        everyLook();
        everySpoon();
        everyGust();
        due.end();
    }

    private FlakePost post() {
        calls++;
        return called;
    }

    /** A number from least to most, now and then one beside or far off. */
    private int draw(int least, int most) {
        if (random.nextInt(wild ? 6 : 60) == 0) {
            int[] odd = {least - 1, most + 1, -1, 256, 16, 32, Integer.MIN_VALUE, Integer.MAX_VALUE, -6, 8};
            return odd[random.nextInt(odd.length)];
        }
        return least + random.nextInt(most - least + 1);
    }

    private void callOne(String where) {
        int kind = random.nextInt(40);
        if (kind < 12) {
            change(where, kind);
        } else if (kind < 24) {
            days(where, kind);
        } else {
            ask(where, kind);
        }
    }

    private void change(String where, int kind) {
        int a = draw(0, 7);
        int b = draw(0, 255);
        int c = draw(0, 15);
        int d = draw(0, 9);
        int e = draw(0, 5);
        switch (kind) {
            case 0: case 1: case 2: case 3:
                d = random.nextInt(3) == 0 ? draw(0, 2) : d;
                due.is(where + "flake(" + a + ", " + b + ", " + c + ", " + d + ", " + e + ")",
                    post().flake(a, b, c, d, e), model.flake(a, b, c, d, e));
                break;
            case 4:
                due.is(where + "melt(" + a + ")", post().melt(a), model.melt(a));
                break;
            case 5: case 6:
                due.is(where + "stand(" + e + ", " + c + ")", post().stand(e, c), model.stand(e, c));
                break;
            case 7:
                a = draw(0, 1);
                due.is(where + "air(" + a + ", " + b + ")", post().air(a, b), model.air(a, b));
                break;
            case 8: case 9:
                seen(where, b);
                break;
            case 10:
                a = draw(0, 1);
                due.is(where + "image(" + a + ")", post().image(a), model.image(a));
                break;
            default:
                a = draw(0, 1);
                if (random.nextInt(3) == 0) {
                    due.is(where + "restore(" + a + ")", post().restore(a), model.restore(a));
                } else {
                    due.is(where + "forget()", post().forget(), model.forget());
                }
                break;
        }
    }

    /** Mostly a sight that some law fits. */
    private void seen(String where, int from) {
        int to = draw(0, 255);
        if (random.nextInt(4) != 0 && from >= 0 && from < 256) {
            FlakePost other = new FlakePost();
            other.air(0, 110);
            other.flake(0, from, 0, 1, 0);
            other.say('c');
            to = other.behind(0, 0);
        }
        due.is(where + "seen(" + from + ", " + to + ")", post().seen(from, to), model.seen(from, to));
    }

    private void days(String where, int kind) {
        if (kind < 19) {
            sayText(where);
            return;
        }
        int a = draw(0, 7);
        int b = draw(0, 3);
        int e = draw(0, 5);
        switch (kind) {
            case 19:
                due.is(where + "judge(" + b + ")", post().judge(b), model.judge(b));
                break;
            case 20:
                due.is(where + "behind(" + a + ", " + b + ")", post().behind(a, b), model.behind(a, b));
                break;
            case 21:
                due.is(where + "stands(" + e + ", " + b + ")", post().stands(e, b), model.stands(e, b));
                break;
            case 22:
                due.is(where + "posted(" + b + ")", post().posted(b), model.posted(b));
                break;
            default:
                int want = model.done();
                due.is(where + "done()", post().done(), want);
                if (want < 0) {
                    due.is(where + "wipe()", post().wipe(), model.wipe());
                }
                break;
        }
    }

    private void sayText(String where) {
        String weather = "cd<>..";
        String deeds = "<>u";
        int sign = weather.charAt(random.nextInt(weather.length()));
        if (random.nextInt(60) == 0) {
            sign = draw(33, 126);
        } else if (random.nextBoolean()) {
            sign = deeds.charAt(random.nextInt(deeds.length()));
            int one = 'A' + random.nextInt(6);
            due.is(where + "say(" + one + ")", post().say(one), model.say(one));
        }
        due.is(where + "say(" + sign + ")", post().say(sign), model.say(sign));
        due.is(where + "fault()", post().fault(), model.fault());
    }

    /** A PAD that is said till it is full, or till some ACT can not be, and all that can be asked of it. */
    private void longDays(String where) {
        for (int flake = 0; flake < 8; flake++) {
            if (random.nextInt(4) != 0) {
                int arm = random.nextInt(256);
                int place = random.nextInt(16);
                int height = Math.min(9, random.nextInt(14));
                int one = random.nextInt(6);
                due.is(where + "flake", post().flake(flake, arm, place, height, one),
                    model.flake(flake, arm, place, height, one));
            }
        }
        for (int one = 0; one < 6; one++) {
            int place = 3 + random.nextInt(10);
            due.is(where + "stand", post().stand(one, place), model.stand(one, place));
        }
        int room = 60 - random.nextInt(3);
        while (model.told(0) < room && model.judge(1) <= 0) {
            sayAct(where);
        }
        askAll(where);
        int acts = model.done();
        due.is(where + "done()", post().done(), acts);
        compareTold(where);
        due.holds(where + calls + " calls", calls <= CALLS);
    }

    private void sayAct(String where) {
        String act = "cd<>".substring(random.nextInt(4)).substring(0, 1);
        if (random.nextInt(3) != 0) {
            act = "ABCDEF".charAt(random.nextInt(6)) + "<>u".substring(random.nextInt(3)).substring(0, 1);
        } else if (random.nextInt(3) == 0) {
            act = ".";
        }
        for (int at = 0; at < act.length(); at++) {
            due.is(where + "say(" + act + ")", post().say(act.charAt(at)), model.say(act.charAt(at)));
        }
    }

    private void askAll(String where) {
        due.is(where + "fault()", post().fault(), model.fault());
        for (int what = -1; what < 5; what++) {
            due.is(where + "judge(" + what + ")", post().judge(what), model.judge(what));
            due.is(where + "posted(" + what + ")", post().posted(what), model.posted(what));
            for (int number = -1; number < 9; number++) {
                due.is(where + "behind(" + number + ", " + what + ")", post().behind(number, what), model.behind(number, what));
                due.is(where + "stands(" + number + ", " + what + ")", post().stands(number, what), model.stands(number, what));
            }
        }
    }

    private void ask(String where, int kind) {
        int a = draw(0, 255);
        int b = draw(0, 255);
        int n = draw(0, 10);
        int what = draw(0, 1);
        switch (kind) {
            case 24:
                due.is(where + "says(" + a + ")", post().says(a), model.says(a));
                break;
            case 25: case 26:
                b = random.nextInt(3) == 0 ? b : grownBy(a, n);
                due.is(where + "grew(" + a + ", " + b + ", " + n + ", " + what + ")", post().grew(a, b, n, what),
                    model.grew(a, b, n, what));
                break;
            case 27: case 28:
                b = random.nextInt(3) == 0 ? b : grownBy(a, n);
                due.is(where + "soon(" + a + ", " + b + ")", post().soon(a, b), model.soon(a, b));
                break;
            case 29: case 30:
                due.is(where + "most(" + what + ")", post().most(what), model.most(what));
                break;
            case 31: case 32:
                due.is(where + "patch(" + what + ")", post().patch(what), model.patch(what));
                break;
            case 33:
                a = random.nextInt(3) == 0 ? -1 : draw(0, 15);
                due.is(where + "laws(" + a + ")", post().laws(a), model.laws(a));
                break;
            case 34:
                due.is(where + "look(" + what + ")", post().look(what), model.look(what));
                break;
            case 35:
                gusts(where);
                break;
            case 36:
                n = draw(0, 60);
                due.is(where + "spoon(" + n + ", " + what + ")", post().spoon(n, what), model.spoon(n, what));
                break;
            case 37: case 38:
                a = draw(0, 9999);
                n = draw(1, 99);
                what = draw(0, 2);
                due.is(where + "year(" + a + ", " + n + ", " + what + ")", post().year(a, n, what), model.year(a, n, what));
                break;
            default:
                a = random.nextInt(20) == 0 ? random.nextInt() : random.nextInt(170) - 4;
                due.is(where + "told(" + a + ")", post().told(a), model.told(a));
                break;
        }
    }

    /** An ARM that the first may become, where the numbers are fit for that. */
    private int grownBy(int arm, int n) {
        if (arm < 0 || arm > 255 || n < 0 || n > 10) {
            return arm;
        }
        FlakePost other = new FlakePost();
        other.air(0, post().told(2));
        other.air(1, post().told(3));
        other.flake(0, arm, 0, 1, 0);
        for (int air = 0; air < n; air++) {
            other.say(random.nextBoolean() ? 'c' : 'd');
        }
        return other.behind(0, 0);
    }

    private void gusts(String where) {
        int from = draw(0, 15);
        int h = draw(0, 6);
        int a = draw(0, 10);
        int b = draw(0, a < 0 || a > 9 ? 10 : 10 - a);
        int to = draw(-1, 15);
        if (random.nextBoolean()) {
            to = Math.max(-1, Math.min(15, Math.min(from, 16) - 3 + random.nextInt(7)));
        }
        int part = draw(0, 1);
        due.is(where + "gusts(" + from + ", " + h + ", " + a + ", " + b + ", " + to + ", " + part + ")",
            post().gusts(from, h, a, b, to, part), model.gusts(from, h, a, b, to, part));
    }

    private void compareTold(String where) {
        for (int what = 0; what < 160; what++) {
            int most = what < 10 ? 5 : what < 90 ? 4 : what < 100 ? -1 : 1;
            if (what % 10 <= most) {
                due.is(where + "told(" + what + ")", post().told(what), model.told(what));
            }
        }
        due.is(where + "laws(-1)", post().laws(-1), model.laws(-1));
        due.is(where + "laws(0)", post().laws(0), model.laws(0));
        due.is(where + "fault()", post().fault(), model.fault());
    }

    private static void everyLaw() {
        for (int law = 0; law < 256; law++) {
            FlakePost post = new FlakePost();
            Model model = new Model();
            post.air(law % 2, law);
            model.air(law % 2, law);
            for (int arm = 0; arm < 256; arm += 3) {
                due.is("law " + law + ", soon(" + arm + ", 73)", post.soon(arm, 73), model.soon(arm, 73));
                due.is("law " + law + ", grew(" + arm + ", 0, 4, 1)", post.grew(arm, 0, 4, 1), model.grew(arm, 0, 4, 1));
            }
        }
    }

    /** All ARMS by all LAWS: told by rows of one AIR, and by what FLAKES become. */
    private static void everyGrowth() {
        for (int law = 0; law < 256; law++) {
            for (int some = 0; some < 4; some++) {
                FlakePost post = new FlakePost();
                due.is("air", post.air(0, law), 90);
                due.is("air", post.air(1, 255 - law), 30);
                for (int arm = 64 * some; arm < 64 * some + 64; arm++) {
                    due.is("law " + law + ", grew(" + arm + ", .., 1, 1)", post.grew(arm, Model.grown(arm, law), 1, 1), 1);
                    due.is("law " + law + ", flake", post.flake(arm % 8, arm, 0, 1, 0), arm % 64 < 8 ? arm % 8 + 1 : 8);
                    due.is("law " + law + ", say('d')", post.say('d'), 1);
                    due.is("law " + law + ", damp " + arm, post.behind(arm % 8, 0), Model.grown(arm, 255 - law));
                    due.is("law " + law + ", wipe()", post.wipe(), 1);
                }
            }
        }
    }

    /** Behind one SIGHT of each ARM, and behind two. */
    private static void everyLook() {
        for (int arm = 0; arm < 256; arm++) {
            FlakePost post = new FlakePost();
            Model model = new Model();
            int law = arm * 37 % 256;
            for (int other = arm; other < 256 + arm; other += 67) {
                int to = Model.grown(other % 256, law);
                due.is("seen(" + other % 256 + ", " + to + ")", post.seen(other % 256, to), model.seen(other % 256, to));
                for (int what = 0; what < 2; what++) {
                    due.is("look(" + what + ") behind " + arm + " to " + other, post.look(what), model.look(what));
                }
                for (int i = -1; i < 10; i++) {
                    due.is("laws(" + i + ") behind " + arm + " to " + other, post.laws(i), model.laws(i));
                }
            }
        }
    }

    private static void everySpoon() {
        FlakePost post = new FlakePost();
        Model model = new Model();
        for (int n = -1; n <= 61; n++) {
            due.is("spoon(" + n + ", 0)", post.spoon(n, 0), model.spoon(n, 0));
            due.is("spoon(" + n + ", 1)", post.spoon(n, 1), model.spoon(n, 1));
        }
        for (int arm = 0; arm < 256; arm++) {
            due.is("says(" + arm + ")", post.says(arm), model.says(arm));
        }
    }

    private static void everyGust() {
        Model model = new Model();
        for (int from = 0; from < 16; from++) {
            for (int h = 0; h <= 6; h++) {
                for (int a = 0; a <= 10; a++) {
                    everyGust(model, from, h, a);
                }
            }
        }
    }

    private static void everyGust(Model model, int from, int h, int a) {
        FlakePost post = new FlakePost();
        for (int b = 0; b <= 10 - a; b++) {
            for (int to = -1; to < 16; to++) {
                for (int part = 0; part < 2; part++) {
                    due.is("gusts(" + from + ", " + h + ", " + a + ", " + b + ", " + to + ", " + part + ")",
                        post.gusts(from, h, a, b, to, part), model.gusts(from, h, a, b, to, part));
                }
            }
        }
    }
}
