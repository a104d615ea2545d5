/** The boundary cases of the tape, the bench, its faults and about: promises 1 to 5 and 37, sentence by sentence. */
public final class TapeEdgeTest {
    private static final int BLANKS = 0x20202020;

    private static int feedBlanks(DyeLamps x) {
        return x.feed(BLANKS, BLANKS, BLANKS, BLANKS, BLANKS);
    }

    private static DyeLamps withBytes(int count) {
        DyeLamps x = Edge.busy();
        x.end(0);
        for (int i = 0; i < 85; i++) {
            feedBlanks(x);
        }
        x.end(count);
        return x;
    }

    private static void newObject() {
        Edge.sentence("An empty BENCH.");
        DyeLamps x = new DyeLamps();
        int[] want = {4, 0, 0, 0, 0, 0, 0, 0, 0, 1, 0, 0};
        for (int what = 0; what < want.length; what++) {
            Edge.due("about(" + what + ")", x.about(what), want[what]);
        }
        Edge.due("mixes", x.mixes(), -1);
        Edge.due("match", x.match(1, false), -1);
        Edge.due("nearest", x.nearest(1, false), -1);
        Edge.due("best", x.best(1, false), -1);
        Edge.due("trick", x.trick(0, 0, false), -1);
        Edge.due("pick", x.pick(0), -1);
        Edge.due("parts", x.parts(0), -1);
        Edge.due("weight", x.weight(0), -1);
        Edge.due("betray", x.betray(-1, -1, false), -1);
        Edge.due("lamp", x.lamp(-1, -1, false), -1);
        Edge.due("ask", x.ask(0, 0, 0, 0), false);
        Edge.due("set", x.set(0), false);
        Edge.due("drop", x.drop(0, 1), -1);
        Edge.due("vat", x.vat(0), -1);
        Edge.due("old", x.old(), 0);
        Edge.due("oldOne", x.oldOne(0, 0), -2);
        Edge.due("look", x.look(0, 0, 0, 0), -1);
        Edge.due("untell", x.untell(0), false);
        Edge.due("agree", x.agree(0), 0);
        Edge.due("agrees", x.agrees(0, 0), -1);
        Edge.due("next", x.next(2, 0), -1);
        for (int box = 0; box < 3; box++) {
            Edge.due("back(" + box + ")", x.back(box), -1);
        }
        Edge.due("end", x.end(0), 0);
        Edge.due("end of one byte", x.end(1), -1);
    }

    private static void feed() {
        Edge.sentence("Twenty bytes come behind those on the TAPE, of each number the highest first: how many there are");
        DyeLamps x = new DyeLamps();
        Edge.due("the first twenty", x.feed(0x62616e64, 0x73092020, BLANKS, BLANKS, BLANKS), 20);
        x.bench();
        Edge.due("a tab is the sixth byte", x.fault(1), 5);
        int[] numbers = {BLANKS, BLANKS, BLANKS, BLANKS, BLANKS};
        for (int at = 0; at < 20; at++) {
            int[] n = numbers.clone();
            // 255 is the highest byte: the number is below 0 where it comes first.
            n[at / 4] |= 255 << 24 - 8 * (at % 4);
            x.feed(n[0], n[1], n[2], n[3], n[4]);
            x.bench();
            Edge.due("the byte of no token, at " + at, x.fault(1), at);
        }
        feedBlanks(x);
        x.end(3);
        Edge.due("behind those that are left", x.feed(0x24202020, BLANKS, BLANKS, BLANKS, BLANKS), 23);
        x.bench();
        Edge.due("the dollar comes behind three", x.fault(1), 3);

        Edge.sentence("NONE, and nothing comes, if there would be more than 1,700");
        for (int i = 1; i <= 85; i++) {
            Edge.due("feed", feedBlanks(x), 20 * i);
        }
        Edge.due("1,700 at most", x.about(8), 1700);
        Edge.refused("feed onto 1,700", () -> withBytes(1700), y -> y.feed(1, 2, 3, 4, 5), -1);
        Edge.refused("feed onto 1,681", () -> withBytes(1681), y -> y.feed(1, 2, 3, 4, 5), -1);
        Edge.refused("feed onto 1,699", () -> withBytes(1699), y -> y.feed(1, 2, 3, 4, 5), -1);
        Edge.due("feed onto 1,680", feedBlanks(withBytes(1680)), 1700);
        Edge.due("feed onto 1,679", feedBlanks(withBytes(1679)), 1699);
    }

    private static void end() {
        Edge.sentence("The TAPE has its first n bytes: n");
        DyeLamps x = new DyeLamps();
        Texts.feed(x, "bands 16;");
        Edge.due("all of them", x.end(9), 9);
        Edge.due("bytes", x.about(8), 9);
        Edge.due("some", x.end(7), 7);
        Edge.due("bytes", x.about(8), 7);
        Edge.due("those behind are gone", x.end(8), -1);
        x.feed(0x3b202020, BLANKS, BLANKS, BLANKS, BLANKS);
        Edge.due("bands 1;", x.bench(), 0);
        Edge.due("bands 1;", x.about(0), 1);
        feedBlanks(x);
        Edge.due("none of them", x.end(0), 0);
        Edge.due("none of none", x.end(0), 0);
        Edge.due("1,700", withBytes(1700).end(1700), 1700);

        Edge.sentence("NONE, doing nothing, if it has not so many, or n is below 0");
        for (int n : new int[] {8, 1700, 1701, Integer.MAX_VALUE, -1, Integer.MIN_VALUE}) {
            Edge.refusedWhenBusy("end(" + n + ") of 7", y -> y.end(n), -1);
        }
        Edge.due("1,701 of 1,700", withBytes(1700).end(1701), -1);
        Edge.due("one of none", new DyeLamps().end(1), -1);
    }

    private static void bench() {
        Edge.sentence("The TAPE (empty then) is the BENCH (the VAT as at first, LOOKS are none, BOXES are empty, nothing is asked of,"
                + " none is BEST, no MIX, no weights lie there then; w, the TIME stay): how many GOODS");
        DyeLamps x = Edge.busy();
        int w = x.about(9);
        x.end(0);
        Texts.feed(x, Edge.BUSY);
        Edge.due("the same text again", x.bench(), 2);
        Edge.due("the tape is empty", x.about(8), 0);
        Edge.parts("no mix lies there", x, -1, -1);
        Edge.due("nothing is asked of", x.mixes(), -1);
        Edge.due("the vat's ground", x.about(11), 0);
        Edge.vat("the vat", x, 0, 0, -1);
        Edge.due("its days", x.about(10), 0);
        Edge.due("its cost", x.cost(-1), 0);
        Edge.due("looks", x.about(6), 0);
        Edge.due("no look is left to untell", x.untell(1), false);
        Edge.due("no look counts", x.agree(x.about(7)), x.old());
        for (int box = 0; box < 3; box++) {
            Edge.due("box " + box, x.back(box), -1);
        }
        Edge.due("nothing is asked of, match", x.match(1, false), -1);
        Edge.due("none is best", x.pick(0), -1);
        Edge.due("no weights lie there", x.weight(0), -1);
        Edge.due("no weights lie there", x.weight(1), -1);
        Edge.due("w stays", x.about(9), w);
        Edge.due("the time stays", x.about(7), 10);
        Edge.due("the next look is the first", x.look(0, 0, 1, 1), 0);
        DyeLamps y = Edge.busy();
        y.end(0);
        Edge.due("an empty text is a bench, too", y.bench(), 0);
        int[] want = {4, 0, 0, 0, 0, 0, 0, 10, 0, w, 0, 0};
        for (int what = 0; what < want.length; what++) {
            Edge.due("about(" + what + ") of the empty text", y.about(what), want[what]);
        }
        Edge.due("old of the empty text", y.old(), 0);

        Edge.sentence("NONE: a FAULT (all stays)");
        for (String text : new String[] {"$", "bands 3;lamp l of 1 1 1;over", Edge.BUSY + "most"}) {
            DyeLamps faulty = Edge.busy();
            faulty.end(0);
            Texts.feed(faulty, text);
            Edge.due("a faulty text", faulty.bench(), -1);
            Edge.due("a faulty text is gone from the tape", faulty.about(8), 0);
            Edge.due("its fault is told", faulty.fault(0) > 0, true);
            standsAsBefore(text);
        }
    }

    /** Held against an object that never had a fault, by all but the fault itself. */
    private static void standsAsBefore(String text) {
        DyeLamps faulty = Edge.busy();
        faulty.end(0);
        Texts.feed(faulty, text);
        faulty.bench();
        Texts.feed(faulty, "bands 1");
        String[] got = Edge.shown(faulty).split("\n");
        String[] want = Edge.shown(Edge.busy()).split("\n");
        for (int i = 0; i < want.length; i++) {
            if (!want[i].startsWith("faults")) {
                Edge.due("[" + got[i] + "] is [" + want[i] + "]", got[i].equals(want[i]), true);
            }
        }
    }

    private static void fault() {
        Edge.sentence("Of the latest bench() what 0: its FAULT (0), 1: its place (NONE).");
        DyeLamps x = new DyeLamps();
        Edge.due("no bench() yet", x.fault(0), 0);
        Edge.due("no bench() yet", x.fault(1), -1);
        Texts.bench(x, "bands 17;");
        Edge.due("a fault", x.fault(0), 4);
        Edge.due("its place", x.fault(1), 6);
        Edge.due("asked again", x.fault(0), 4);
        Texts.feed(x, "over;");
        Edge.due("a new text is on the tape alone", x.fault(0), 4);
        Edge.due("a new text is on the tape alone", x.fault(1), 6);
        x.bench();
        Edge.due("none behind a sound text", x.fault(0), 0);
        Edge.due("no place behind a sound text", x.fault(1), -1);
        Texts.bench(x, "  $");
        Texts.bench(x, "over");
        Edge.due("the latest", x.fault(0), 2);
        Edge.due("the latest place", x.fault(1), 4);

        Edge.sentence("NONE for another what.");
        for (int what : new int[] {-1, 2, Integer.MIN_VALUE, Integer.MAX_VALUE}) {
            Edge.due("fault(" + what + ")", x.fault(what), -1);
        }
    }

    private static void about() {
        Edge.sentence("What 0: bands, 1: dyes, 2: grounds, 3: lamps, 4: eyes, 5: GOODS, 6: LOOKS, 7: the TIME, 8: bytes on the TAPE,"
                + " 9: w, 10: DAYS of the VAT, 11: the VAT's ground.");
        DyeLamps x = Edge.on("bands 2;dye a price 1 fast 1 of 1 1;dye b price 1 fast 1 of 1 1;dye c price 1 fast 1 of 1 1;"
                + "ground a of 1 1;ground b of 1 1;ground c of 1 1;ground d of 1 1;"
                + "lamp a of 1 1;lamp b of 1 1;lamp c of 1 1;lamp d of 1 1;lamp e of 1 1;eye a of 1 1;good a on d of 1 1 1;");
        x.later(17);
        for (int i = 0; i < 6; i++) {
            x.look(0, 0, 0, 0);
        }
        x.set(3);
        x.days(9);
        x.seed(12345);
        feedBlanks(x);
        x.end(8);
        int[] want = {2, 3, 4, 5, 1, 1, 6, 17, 8, 12345, 9, 3};
        for (int what = 0; what < want.length; what++) {
            Edge.due("about(" + what + ")", x.about(what), want[what]);
        }

        Edge.sentence("NONE for another what (w may be that, too).");
        for (int what : new int[] {-1, 12, Integer.MIN_VALUE, Integer.MAX_VALUE}) {
            Edge.due("about(" + what + ")", x.about(what), -1);
        }
        x.seed(-1);
        Edge.due("w is -1", x.about(9), -1);
        x.seed(Integer.MIN_VALUE);
        Edge.due("w is the least", x.about(9), Integer.MIN_VALUE);

        Edge.sentence("NONE = -1");
        Edge.due("the constant", DyeLamps.NONE, -1);
    }

    public static void main(String[] args) throws Exception {
        newObject();
        feed();
        end();
        bench();
        fault();
        about();
        Edge.finish();
    }
}
