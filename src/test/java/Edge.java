import java.io.IOException;
import java.nio.file.Files;
import java.nio.file.Path;
import java.util.ArrayList;
import java.util.List;
import java.util.function.IntToLongFunction;
import java.util.function.Supplier;
import java.util.function.ToLongFunction;

/** The document's sentences one by one: which of them is held now, what is due there, and what went wrong. */
final class Edge {
    /** Numbers that no index, count or measure of the document reaches. */
    static final int[] EXTREMES = {Integer.MIN_VALUE, Integer.MIN_VALUE + 1, -2, 100, 1 << 30, Integer.MAX_VALUE};

    private static final List<String> quotes = new ArrayList<>();
    private static int wrong = 0;
    private static int checks = 0;
    private static int checksAtStart = 0;
    private static String sentence = "";

    private Edge() { }

    /** All checks up to the next call of this are of these words of the document. */
    static void sentence(String words) {
        refuseEmptySentence();
        sentence = words;
        quotes.add(words);
    }

    private static void refuseEmptySentence() {
        if (!quotes.isEmpty() && checks == checksAtStart) {
            wrong++;
            System.out.println("no check of: " + sentence);
        }
        checksAtStart = checks;
    }

    static void due(String what, long got, long want) {
        checks++;
        if (got != want) {
            wrong++;
            System.out.println("[" + sentence + "] " + what + ": answered " + got + ", due is " + want);
        }
    }

    static void due(String what, boolean got, boolean want) {
        due(what, bit(got), bit(want));
    }

    static long bit(boolean b) {
        return b ? 1 : 0;
    }

    /** An object with a sound text on its bench. */
    static DyeLamps on(String text) {
        DyeLamps x = new DyeLamps();
        sound(x, text);
        return x;
    }

    static void sound(DyeLamps x, String text) {
        if (Texts.bench(x, text) < 0) {
            due("a sound text [" + text + "], fault " + x.fault(0), x.fault(1), -1);
        }
    }

    static void isSound(String text) {
        DyeLamps x = new DyeLamps();
        due("bench of [" + text + "]", Texts.bench(x, text) >= 0, true);
        due("fault of [" + text + "]", x.fault(0), 0);
        due("place in [" + text + "]", x.fault(1), -1);
    }

    static void hasFault(String text, int number, int place) {
        DyeLamps x = new DyeLamps();
        due("bench of [" + text + "]", Texts.bench(x, text), -1);
        due("fault of [" + text + "]", x.fault(0), number);
        due("place in [" + text + "]", x.fault(1), place);
    }

    /** What lies just below, just above and far outside is answered so. */
    static void outside(String what, IntToLongFunction call, int answer, int below, int above) {
        due(what + " " + below, call.applyAsLong(below), answer);
        due(what + " " + above, call.applyAsLong(above), answer);
        for (int far : EXTREMES) {
            due(what + " " + far, call.applyAsLong(far), answer);
        }
    }

    static void parts(String what, DyeLamps x, int... want) {
        for (int dye = 0; dye < want.length; dye++) {
            due(what + ", parts of dye " + dye, x.parts(dye), want[dye]);
        }
    }

    static void vat(String what, DyeLamps x, int... want) {
        for (int dye = 0; dye < want.length; dye++) {
            due(what + ", dye " + dye + " in the vat", x.vat(dye), want[dye]);
        }
    }

    static final String BUSY = "bands 2;most 6;slip 5;alike 5;dye r price 3 fast 2 of 80 20;dye b price 2 fast 3 of 10 90;"
            + "ground w of 50 50;ground s of 90 70;lamp d of 1 1;lamp n of 0 2;eye p of 1 0;eye q of 0 1;"
            + "good x on w of 2 1;good y on s of 0 2;";

    /** An object in which nothing is as at first, so that each thing a call might touch can be told. */
    static DyeLamps busy() {
        DyeLamps x = on(BUSY);
        x.seed(77);
        x.later(5);
        x.look(0, 0, 60, 9);
        x.later(3);
        x.look(1, 1, 100, 50);
        x.untell(0);
        x.later(2);
        x.set(1);
        x.drop(0, 2);
        x.days(1);
        x.image(0);
        x.drop(1, 1);
        x.days(1);
        x.image(2);
        x.drop(0, 1);
        x.ask(0, 1, 3, 2);
        x.best(3, false);
        x.pick(1);
        x.betray(0, 1, true);
        Texts.feed(x, "bands 1");
        return x;
    }

    /** All that an object shows, what can be asked without changing it first. */
    static String shown(DyeLamps x) {
        StringBuilder s = new StringBuilder();
        for (int what = 0; what < 12; what++) {
            tell(s, "about", x.about(what));
        }
        tell(s, "faults", x.fault(0), x.fault(1), x.mixes(), x.old());
        for (int i = 0; i < 3; i++) {
            tell(s, "dye", x.vat(i), x.parts(i), x.weight(i));
        }
        tell(s, "the vat", x.cost(-1), x.throwsBack(-1, 0), x.throwsBack(-1, 1), x.seen(-1, 0, 0));
        int time = x.about(7);
        for (int k : new int[] {-1, 0, 4, 5, 7, 8, time - 1, time, time + 1}) {
            tell(s, "known", x.agree(k), x.agrees(0, k), x.agrees(1, k), x.next(2, k));
        }
        tell(s, "the latest bests", x.pick(0), x.parts(0), x.pick(1), x.parts(0), x.pick(2), x.parts(0));
        tell(s, "asked of", x.nearest(1, false), x.parts(0), x.parts(1));
        tell(s, "a drop", x.drop(1, 1), x.about(9), x.days(1), x.vat(0), x.vat(1));
        for (int box = 0; box < 3; box++) {
            tell(s, "a box", x.back(box), x.vat(0), x.vat(1), x.about(9), x.about(10), x.about(11));
        }
        tell(s, "looks", bit(x.untell(0)), bit(x.untell(1)), bit(x.untell(2)), x.look(0, 0, 0, 0));
        tell(s, "the tape", x.feed(0x3b202020, 0x20202020, 0x20202020, 0x20202020, 0x20202020));
        tell(s, "the text", x.bench(), x.fault(0), x.fault(1), x.about(0));
        return s.toString();
    }

    private static void tell(StringBuilder s, String what, long... answers) {
        s.append(what);
        for (long answer : answers) {
            s.append(' ').append(answer);
        }
        s.append('\n');
    }

    /** A call that is refused with such an answer; from then on the object must answer as its twin, which never heard it. */
    static void refused(String what, Supplier<DyeLamps> make, ToLongFunction<DyeLamps> call, long want) {
        DyeLamps x = make.get();
        due(what, call.applyAsLong(x), want);
        same(what, x, make.get());
    }

    static void refusedWhenBusy(String what, ToLongFunction<DyeLamps> call, long want) {
        refused(what, Edge::busy, call, want);
    }

    static void same(String what, DyeLamps x, DyeLamps twin) {
        String[] got = shown(x).split("\n");
        String[] want = shown(twin).split("\n");
        for (int i = 0; i < got.length; i++) {
            checks++;
            if (!got[i].equals(want[i])) {
                wrong++;
                System.out.println("[" + sentence + "] behind " + what + ": " + got[i] + ", due is " + want[i]);
            }
        }
    }

    /** Tells words that the document does not have (any more), so that they can be looked at again. */
    private static void lookUpQuotes() throws IOException {
        Path document = Path.of("../shared/DOC.md");
        if (Files.isReadable(document)) {
            String text = Files.readString(document).replaceAll("\\s+", " ").replace("`", "");
            for (String quote : quotes) {
                if (!text.contains(quote)) {
                    System.out.println("note: the document does not say: " + quote);
                }
            }
        }
    }

    static void finish() throws IOException {
        refuseEmptySentence();
        lookUpQuotes();
        System.out.println(quotes.size() + " sentences, " + checks + " checks, " + wrong + " went wrong");
        if (wrong != 0 || checks == 0) {
            System.exit(1);
        }
    }
}
