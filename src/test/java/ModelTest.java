import java.util.Random;

/** Random runs of calls, each answer held against the model's. */
public final class ModelTest {
    private static int wrong = 0;
    private static int answers = 0;

    private final Random r;
    private final DyeLamps x = new DyeLamps();
    private final Model m = new Model();
    private final StringBuilder told = new StringBuilder();
    private final int run;
    private int calls = 0;
    private boolean failed = false;

    private ModelTest(int run) {
        this.run = run;
        r = new Random(run);
    }

    private void same(String call, long got, long want) {
        calls++;
        answers++;
        if (got != want && !failed) {
            failed = true;
            wrong++;
            System.out.println("run " + run + ": " + call + " answered " + got + ", due is " + want + "\n" + told);
        }
    }

    private static long bit(boolean b) {
        return b ? 1 : 0;
    }

    private void bench(String text) {
        told.setLength(0);
        told.append(text).append('\n');
        for (int[] n : Texts.numbers(text)) {
            same("feed", x.feed(n[0], n[1], n[2], n[3], n[4]), m.feed(n));
        }
        same("end", x.end(text.length()), m.end(text.length()));
        same("bench", x.bench(), m.bench());
        same("fault(0)", x.fault(0), m.fault(0));
        same("fault(1)", x.fault(1), m.fault(1));
    }

    private int extreme() {
        int[] all = {Integer.MIN_VALUE, Integer.MAX_VALUE, Integer.MIN_VALUE + 1, 1 << 30, -2, r.nextInt()};
        return all[r.nextInt(all.length)];
    }

    /** Mostly a number below the count, at times one outside. */
    private int near(int count) {
        if (r.nextInt(60) == 0) {
            return extreme();
        }
        return r.nextInt(8) == 0 || count <= 0 ? r.nextInt(count + 3) - 2 : r.nextInt(count);
    }

    private int good() {
        return r.nextInt(4) == 0 ? -1 : near(m.about(5));
    }

    private int lamps() {
        int all = 1 << m.about(3);
        if (r.nextInt(40) == 0) {
            return extreme();
        }
        return r.nextInt(12) == 0 || all == 1 ? r.nextInt(2 * all + 1) - 1 : 1 + r.nextInt(all - 1);
    }

    private void oneCall() {
        int group = r.nextInt(6);
        switch (group) {
            case 0 -> lookingCall();
            case 1 -> askingCall();
            case 2 -> findingCall();
            case 3 -> vatCall();
            case 4 -> oldCall();
            default -> smallCall();
        }
    }

    private void lookingCall() {
        int a = good();
        int b = good();
        int lamp = near(m.about(3));
        boolean odd = r.nextBoolean();
        String args = "(" + a + ", " + b + ", " + lamp + ", " + odd + ")";
        switch (r.nextInt(7)) {
            case 0 -> {
                int band = near(m.about(0));
                same("throwsBack(" + a + ", " + band + ")", x.throwsBack(a, band), m.throwsBack(a, band));
            }
            case 1 -> {
                int eye = near(m.about(4));
                same("seen(" + a + ", " + lamp + ", " + eye + ")", x.seen(a, lamp, eye), m.seen(a, lamp, eye));
            }
            case 2 -> same("apart" + args, x.apart(a, b, lamp, odd), m.apart(a, b, lamp, odd));
            case 3 -> same("alike" + args, x.alike(a, b, odd), m.alike(a, b, odd));
            case 4 -> same("cost(" + a + ")", x.cost(a), m.cost(a));
            case 5 -> {
                same("betray" + args, x.betray(a, b, odd), m.betray(a, b, odd));
                for (int i = -1; i <= m.about(3); i++) {
                    same("weight(" + i + ")", x.weight(i), m.weight(i));
                }
            }
            default -> same("lamp" + args, x.lamp(a, b, odd), m.lamp(a, b, odd));
        }
    }

    private void askingCall() {
        int good = near(m.about(5));
        int ground = near(m.about(2));
        int parts = near(m.most() + 1);
        int kinds = r.nextInt(8) == 0 ? near(10) : 1 + r.nextInt(8);
        String call = "ask(" + good + ", " + ground + ", " + parts + ", " + kinds + ")";
        told.append(call).append('\n');
        same(call, bit(x.ask(good, ground, parts, kinds)), bit(m.ask(good, ground, parts, kinds)));
        same("mixes", x.mixes(), m.mixes());
    }

    private void findingCall() {
        boolean odd = r.nextBoolean();
        int lamps = lamps();
        int what = r.nextInt(5);
        // The model is slow: what has very many mixes is asked for now and then alone.
        boolean dear = m.mixes() > 1500 && m.mixes() <= (what == 2 ? 5000 : 100000);
        if (dear && r.nextInt(30) > 0) {
            return;
        }
        switch (what) {
            case 0 -> same("match(" + lamps + ", " + odd + ")", x.match(lamps, odd), m.match(lamps, odd));
            case 1 -> same("nearest(" + lamps + ", " + odd + ")", x.nearest(lamps, odd), m.nearest(lamps, odd));
            case 2 -> {
                int count = m.best(lamps, odd);
                same("best(" + lamps + ", " + odd + ")", x.best(lamps, odd), count);
                for (int i = Math.min(count, 3); i >= 0; i--) {
                    same("parts(0) of best", x.parts(0), m.parts(0));
                    same("pick(" + i + ")", x.pick(i), m.pick(i));
                }
            }
            case 3 -> {
                int day = near(m.about(3));
                int night = near(m.about(3));
                same("trick(" + day + ", " + night + ", " + odd + ")", x.trick(day, night, odd), m.trick(day, night, odd));
            }
            default -> {
                int i = near(6);
                same("pick(" + i + ")", x.pick(i), m.pick(i));
            }
        }
        for (int d = -1; d <= m.about(1); d++) {
            same("parts(" + d + ")", x.parts(d), m.parts(d));
        }
    }

    private void vatCall() {
        switch (r.nextInt(9)) {
            case 0 -> {
                int ground = near(m.about(2));
                same("set(" + ground + ")", bit(x.set(ground)), bit(m.set(ground)));
            }
            case 1, 2, 3 -> {
                int dye = near(m.about(1));
                int parts = r.nextInt(4) == 0 ? near(26) : 1 + r.nextInt(2);
                same("drop(" + dye + ", " + parts + ")", x.drop(dye, parts), m.drop(dye, parts));
            }
            case 4 -> {
                int days = r.nextInt(8) == 0 ? near(1100) : r.nextInt(4);
                same("days(" + days + ")", x.days(days), m.days(days));
            }
            case 5 -> {
                int dye = near(m.about(1));
                same("vat(" + dye + ")", x.vat(dye), m.vat(dye));
            }
            case 6 -> {
                int box = near(3);
                same("image(" + box + ")", x.image(box), m.image(box));
            }
            case 7 -> {
                int box = near(3);
                same("back(" + box + ")", x.back(box), m.back(box));
            }
            default -> {
                int w = r.nextInt();
                same("seed(" + w + ")", x.seed(w), m.seed(w));
            }
        }
    }

    private void tellLook() {
        int lamp = near(m.about(3));
        int eye = near(m.about(4));
        int good = near(m.about(5));
        long seen = m.seen(good, lamp, eye);
        int much = r.nextInt(8) == 0 ? r.nextInt() : (int) (seen / 1000) + r.nextInt(20) - 10;
        int some = r.nextInt(8) == 0 ? near(10100) : r.nextInt(r.nextBoolean() ? 30 : 10000);
        String call = "look(" + lamp + ", " + eye + ", " + much + ", " + some + ")";
        told.append(call).append('\n');
        same(call, x.look(lamp, eye, much, some), m.look(lamp, eye, much, some));
    }

    private void oldCall() {
        int k = m.about(7) - r.nextInt(4) + 1;
        if (r.nextInt(10) == 0) {
            k = r.nextInt();
        }
        switch (r.nextInt(8)) {
            case 0 -> same("old()", x.old(), m.old());
            case 1 -> {
                int old = near(m.old());
                int what = near(2);
                same("oldOne(" + old + ", " + what + ")", x.oldOne(old, what), m.oldOne(old, what));
            }
            case 2 -> tellLook();
            case 3 -> {
                int look = near(m.about(6));
                told.append("untell(" + look + ")\n");
                same("untell(" + look + ")", bit(x.untell(look)), bit(m.untell(look)));
            }
            case 4 -> {
                int by = r.nextInt(6) == 0 ? near(1100) : r.nextInt(3);
                told.append("later(" + by + ")\n");
                same("later(" + by + ")", x.later(by), m.later(by));
            }
            case 5 -> same("agree(" + k + ")", x.agree(k), m.agree(k));
            case 6 -> {
                int i = near(m.agree(k));
                same("agrees(" + i + ", " + k + ")", x.agrees(i, k), m.agrees(i, k));
            }
            default -> {
                int what = near(3);
                same("next(" + what + ", " + k + ")", x.next(what, k), m.next(what, k));
            }
        }
    }

    private void smallCall() {
        int what = near(12);
        same("about(" + what + ")", x.about(what), m.about(what));
        if (r.nextInt(6) == 0) {
            int n = near(60);
            same("end(" + n + ")", x.end(n), m.end(n));
            same("feed", x.feed(n, what, 7, 0, -1), m.feed(n, what, 7, 0, -1));
            x.end(0);
            m.end(0);
        }
        if (r.nextInt(4) == 0) {
            same("fault", x.fault(what), m.fault(what));
        }
    }

    /** As many calls as an object is used for. */
    private void go() {
        oneCall();
        bench(Texts.sound(r));
        while (calls < 512) {
            int roll = r.nextInt(60);
            if (roll == 0) {
                bench(Texts.sound(r));
            } else if (roll == 1) {
                bench(Texts.unsound(r));
            } else {
                oneCall();
            }
        }
    }

    private static void readTexts(int count) {
        for (int i = 0; i < count; i++) {
            ModelTest t = new ModelTest(1000000 + i);
            t.bench(Texts.unsound(t.r));
            for (int what = -1; what < 13; what++) {
                t.same("about(" + what + ")", t.x.about(what), t.m.about(what));
            }
        }
    }

    public static void main(String[] args) {
        int runs = args.length > 0 ? Integer.parseInt(args[0]) : 400;
        for (int run = 1; run <= runs; run++) {
            new ModelTest(run).go();
        }
        readTexts(20 * runs);
        System.out.println(answers + " answers, " + wrong + " runs went wrong");
        if (wrong != 0) {
            System.exit(1);
        }
    }
}
