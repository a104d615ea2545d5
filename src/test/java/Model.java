import java.util.ArrayList;
import java.util.HashMap;
import java.util.List;
import java.util.Map;

/** The document's words, followed one by one and as slowly as they come: what DyeLamps is held against. */
final class Model {
    static final int NONE = -1;

    /** One dye, ground, lamp, eye or good. */
    static final class Thing {
        String name;
        int price;
        int fast;
        int ground;
        int[] row;
    }

    /** Parts on a ground. */
    static final class Mix {
        int ground;
        int[] parts;

        Mix(int ground, int[] parts) {
            this.ground = ground;
            this.parts = parts;
        }

        int total() {
            int sum = 0;
            for (int p : parts) {
                sum += p;
            }
            return sum;
        }
    }

    static final class Bench {
        int bands = 4;
        int most = 12;
        int alike = 10;
        int slip = 0;
        boolean over = false;
        List<Thing> dyes = new ArrayList<>();
        List<Thing> grounds = new ArrayList<>();
        List<Thing> lamps = new ArrayList<>();
        List<Thing> eyes = new ArrayList<>();
        List<Thing> goods = new ArrayList<>();
    }

    static final class Fault extends RuntimeException {
        final int number;
        final int place;

        Fault(int number, int place) {
            super("fault " + number + " at " + place, null, false, false);
            this.number = number;
            this.place = place;
        }
    }

    /** Reads a text front to back. */
    static final class Reader {
        static final String WORDS = " bands dye price fast of ground lamp eye good on most alike over slip ";
        final String text;
        final Bench b = new Bench();
        final List<String> once = new ArrayList<>();
        int at = 0;

        Reader(String text) {
            this.text = text;
        }

        String token() {
            while (at < text.length() && (text.charAt(at) == ' ' || text.charAt(at) == '\n')) {
                at++;
            }
            String rest = text.substring(at);
            if (rest.isEmpty() || rest.startsWith(";")) {
                return rest.isEmpty() ? "" : ";";
            }
            String word = rest.replaceFirst("(?s)[^a-z].*$", "");
            String digits = rest.replaceFirst("(?s)[^0-9].*$", "");
            if (word.length() >= 1 && word.length() <= 8) {
                return word;
            }
            if (digits.length() >= 1 && digits.length() <= 4) {
                String behind = rest.substring(digits.length());
                if (!behind.matches("(?s)[a-z].*")) {
                    return digits;
                }
            }
            throw new Fault(1, at);
        }

        void expect(String word) {
            if (!token().equals(word)) {
                throw new Fault(2, at);
            }
            at += word.length();
        }

        int number(int least, int greatest) {
            String t = token();
            if (!t.matches("[0-9]+")) {
                throw new Fault(2, at);
            }
            int n = Integer.parseInt(t);
            if (n < least || n > greatest) {
                throw new Fault(4, at);
            }
            at += t.length();
            return n;
        }

        String name() {
            String t = token();
            if (!t.matches("[a-z]+") || WORDS.contains(" " + t + " ")) {
                throw new Fault(2, at);
            }
            return t;
        }

        Thing thing(List<Thing> sort) {
            String t = name();
            for (Thing x : sort) {
                if (x.name.equals(t)) {
                    throw new Fault(3, at);
                }
            }
            at += t.length();
            Thing x = new Thing();
            x.name = t;
            return x;
        }

        int[] row(int greatest) {
            expect("of");
            int[] row = new int[b.bands];
            for (int i = 0; i < b.bands; i++) {
                row[i] = number(0, greatest);
            }
            return row;
        }

        int groundCalled() {
            String t = name();
            for (int i = 0; i < b.grounds.size(); i++) {
                if (b.grounds.get(i).name.equals(t)) {
                    at += t.length();
                    return i;
                }
            }
            throw new Fault(5, at);
        }

        Bench read() {
            while (!token().isEmpty()) {
                line(token());
                expect(";");
            }
            return b;
        }

        void refuseIf(boolean wrong) {
            if (wrong) {
                throw new Fault(2, at);
            }
        }

        void line(String first) {
            boolean rows = b.dyes.size() + b.grounds.size() + b.lamps.size() + b.eyes.size() > 0;
            refuseIf(once.contains(first));
            refuseIf(first.equals("bands") && rows);
            refuseIf((first.equals("most") || first.equals("dye")) && !b.goods.isEmpty());
            refuseIf(first.equals("dye") && b.dyes.size() == 8 || first.equals("ground") && b.grounds.size() == 4);
            refuseIf(first.equals("lamp") && b.lamps.size() == 6 || first.equals("eye") && b.eyes.size() == 4);
            refuseIf(first.equals("good") && (b.goods.size() == 8 || b.dyes.isEmpty()));
            refuseIf(!" bands dye ground lamp eye good most alike over slip ".contains(" " + first + " "));
            at += first.length();
            if (" bands most alike over slip ".contains(" " + first + " ")) {
                once.add(first);
            }
            switch (first) {
                case "bands" -> b.bands = number(1, 16);
                case "most" -> b.most = number(1, 24);
                case "alike" -> b.alike = number(0, 9999);
                case "slip" -> b.slip = number(0, 9);
                case "over" -> b.over = true;
                case "dye" -> dye();
                case "ground" -> plain(b.grounds, 99);
                case "lamp" -> plain(b.lamps, 99);
                case "eye" -> plain(b.eyes, 9);
                default -> good();
            }
        }

        void plain(List<Thing> sort, int greatest) {
            Thing x = thing(sort);
            x.row = row(greatest);
            sort.add(x);
        }

        void dye() {
            Thing x = thing(b.dyes);
            expect("price");
            x.price = number(0, 99);
            expect("fast");
            x.fast = number(0, 99);
            x.row = row(99);
            b.dyes.add(x);
        }

        void good() {
            Thing x = thing(b.goods);
            expect("on");
            x.ground = groundCalled();
            expect("of");
            x.row = new int[b.dyes.size()];
            int sum = 0;
            for (int i = 0; i < x.row.length; i++) {
                String t = token();
                int place = at;
                x.row[i] = number(0, 9999);
                sum += x.row[i];
                if (sum > b.most) {
                    throw new Fault(4, place);
                }
            }
            b.goods.add(x);
        }
    }

    record Look(int lamp, int eye, long much, long some, int told, int[] untold) { }

    record Image(int ground, int[] parts, int days, int w) { }

    private final StringBuilder tape = new StringBuilder();
    private Bench b = new Bench();
    private int fault = 0;
    private int faultPlace = NONE;
    private Mix vat = new Mix(0, new int[0]);
    private int days = 0;
    private int w = 1;
    private int time = 0;
    private final List<Look> looks = new ArrayList<>();
    private final Image[] boxes = new Image[3];
    private int[] asked = null;
    private List<int[]> bests = new ArrayList<>();
    private int[] lying = null;
    private int[] weights = null;

    int feed(int... numbers) {
        if (tape.length() + 20 > 1700) {
            return NONE;
        }
        for (int n : numbers) {
            tape.append((char) (n >> 24 & 255)).append((char) (n >> 16 & 255));
            tape.append((char) (n >> 8 & 255)).append((char) (n & 255));
        }
        return tape.length();
    }

    int end(int n) {
        if (n < 0 || n > tape.length()) {
            return NONE;
        }
        tape.setLength(n);
        return n;
    }

    int bench() {
        String text = tape.toString();
        tape.setLength(0);
        try {
            b = new Reader(text).read();
        } catch (Fault f) {
            fault = f.number;
            faultPlace = f.place;
            return NONE;
        }
        fault = 0;
        faultPlace = NONE;
        vat = new Mix(0, new int[b.dyes.size()]);
        days = 0;
        looks.clear();
        boxes[0] = null;
        boxes[1] = null;
        boxes[2] = null;
        asked = null;
        bests = new ArrayList<>();
        lying = null;
        weights = null;
        return b.goods.size();
    }

    int fault(int what) {
        return what == 0 ? fault : what == 1 ? faultPlace : NONE;
    }

    int most() {
        return b.most;
    }

    private static boolean in(int i, List<?> list) {
        return i >= 0 && i < list.size();
    }

    private Mix mix(int good) {
        if (good == NONE) {
            return b.grounds.isEmpty() ? null : vat;
        }
        return in(good, b.goods) ? new Mix(b.goods.get(good).ground, b.goods.get(good).row) : null;
    }

    private long throwsBack(Mix m, int band) {
        long ground = b.grounds.get(m.ground).row[band];
        if (!b.over) {
            long sum = ground * (b.most - m.total());
            for (int i = 0; i < m.parts.length; i++) {
                sum += (long) m.parts[i] * b.dyes.get(i).row[band];
            }
            return sum * 1000 / b.most;
        }
        long left = ground * 1000;
        for (int i = 0; i < m.parts.length; i++) {
            for (int k = 0; k < m.parts[i]; k++) {
                left = left * b.dyes.get(i).row[band] / 100;
            }
        }
        return left;
    }

    private long seenBy(Mix m, int[] light, int eye) {
        long sum = 0;
        for (int band = 0; band < b.bands; band++) {
            sum += throwsBack(m, band) * light[band] * b.eyes.get(eye).row[band];
        }
        return sum;
    }

    private long apartBy(Mix x, Mix y, int[] light, boolean odd) {
        long far = 0;
        for (int eye : odd ? new int[] {0, 1, 3} : new int[] {0, 1, 2}) {
            if (in(eye, b.eyes)) {
                far = Math.max(far, Math.abs(seenBy(x, light, eye) - seenBy(y, light, eye)));
            }
        }
        return far;
    }

    private int[] light(int lamp) {
        return b.lamps.get(lamp).row;
    }

    private boolean alikeBy(Mix x, Mix y, int lamp, boolean odd) {
        return apartBy(x, y, light(lamp), odd) <= b.alike * 1000L;
    }

    private int price(int[] parts) {
        int sum = 0;
        for (int i = 0; i < parts.length; i++) {
            sum += parts[i] * b.dyes.get(i).price;
        }
        return sum;
    }

    int throwsBack(int good, int band) {
        Mix m = mix(good);
        return m == null || band < 0 || band >= b.bands ? NONE : (int) throwsBack(m, band);
    }

    long seen(int good, int lamp, int eye) {
        Mix m = mix(good);
        return m == null || !in(lamp, b.lamps) || !in(eye, b.eyes) ? NONE : seenBy(m, light(lamp), eye);
    }

    long apart(int x, int y, int lamp, boolean odd) {
        boolean can = mix(x) != null && mix(y) != null && in(lamp, b.lamps);
        return can ? apartBy(mix(x), mix(y), light(lamp), odd) : NONE;
    }

    int alike(int x, int y, boolean odd) {
        if (mix(x) == null || mix(y) == null) {
            return NONE;
        }
        int bits = 0;
        for (int i = 0; i < b.lamps.size(); i++) {
            bits += alikeBy(mix(x), mix(y), i, odd) ? 1 << i : 0;
        }
        return bits;
    }

    int cost(int good) {
        if (good == NONE) {
            return price(vat.parts);
        }
        return mix(good) == null ? -2 : price(mix(good).parts);
    }

    boolean ask(int good, int ground, int m, int u) {
        boolean can = in(good, b.goods) && in(ground, b.grounds) && m >= 0 && m <= b.most && u >= 0 && u <= 8;
        if (can) {
            asked = new int[] {good, ground, m, u};
        }
        return can;
    }

    /** All rows from the first dye on, by their order. */
    private void rows(int dye, int[] row, int m, int u, List<int[]> into) {
        if (dye == row.length) {
            into.add(row.clone());
            return;
        }
        for (int p = 0; p <= m && (p == 0 || u > 0); p++) {
            row[dye] = p;
            rows(dye + 1, row, m - p, p == 0 ? u : u - 1, into);
        }
        row[dye] = 0;
    }

    private int countRows(int dyes, int m, int u) {
        if (dyes == 0) {
            return 1;
        }
        int sum = 0;
        for (int p = 0; p <= m && (p == 0 || u > 0); p++) {
            sum += countRows(dyes - 1, m - p, p == 0 ? u : u - 1);
        }
        return sum;
    }

    private List<int[]> askedRows() {
        List<int[]> all = new ArrayList<>();
        rows(0, new int[b.dyes.size()], asked[2], asked[3], all);
        return all;
    }

    private Mix askedMix(int[] row) {
        return new Mix(asked[1], row);
    }

    int mixes() {
        return asked == null ? NONE : countRows(b.dyes.size(), asked[2], asked[3]);
    }

    private static int sum(int[] row) {
        return new Mix(0, row).total();
    }

    /** Whether x is to be taken ahead of y where the two are else alike. */
    private boolean ahead(int[] x, int[] y) {
        if (price(x) != price(y)) {
            return price(x) < price(y);
        }
        if (sum(x) != sum(y)) {
            return sum(x) < sum(y);
        }
        for (int i = 0; i < x.length; i++) {
            if (x[i] != y[i]) {
                return x[i] < y[i];
            }
        }
        return false;
    }

    /** NONE or -2 where nothing can be answered, 0 where it can. */
    private int obstacle(boolean can, int limit) {
        lying = null;
        if (asked == null || !can) {
            return NONE;
        }
        return mixes() > limit ? -2 : 0;
    }

    private boolean isSet(int lamps) {
        return lamps > 0 && lamps < 1 << b.lamps.size();
    }

    int match(int lamps, boolean odd) {
        int no = obstacle(isSet(lamps), 100000);
        if (no != 0) {
            return no;
        }
        for (int[] row : askedRows()) {
            boolean all = true;
            for (int i = 0; i < b.lamps.size(); i++) {
                all = all && ((lamps >> i & 1) == 0 || alikeBy(askedMix(row), mix(asked[0]), i, odd));
            }
            if (all && (lying == null || ahead(row, lying))) {
                lying = row;
            }
        }
        return lying == null ? NONE : price(lying);
    }

    private long[] aparts(int[] row, int lamps, boolean odd) {
        long[] far = new long[b.lamps.size()];
        for (int i = 0; i < far.length; i++) {
            far[i] = (lamps >> i & 1) == 0 ? 0 : apartBy(askedMix(row), mix(asked[0]), light(i), odd);
        }
        return far;
    }

    long nearest(int lamps, boolean odd) {
        int no = obstacle(isSet(lamps), 100000);
        if (no != 0) {
            return no;
        }
        long least = 0;
        for (int[] row : askedRows()) {
            long greatest = 0;
            for (long far : aparts(row, lamps, odd)) {
                greatest = Math.max(greatest, far);
            }
            if (lying == null || greatest < least || greatest == least && ahead(row, lying)) {
                lying = row;
                least = greatest;
            }
        }
        return least;
    }

    int best(int lamps, boolean odd) {
        bests = new ArrayList<>();
        int no = obstacle(isSet(lamps), 5000);
        if (no != 0) {
            return no;
        }
        List<int[]> all = askedRows();
        List<long[]> far = new ArrayList<>();
        for (int[] row : all) {
            far.add(aparts(row, lamps, odd));
        }
        for (int i = 0; i < all.size(); i++) {
            boolean beaten = false;
            for (int j = 0; j < all.size() && !beaten; j++) {
                beaten = beats(far.get(j), far.get(i));
            }
            if (!beaten) {
                bests.add(all.get(i));
            }
        }
        lying = bests.get(0);
        return bests.size();
    }

    private static boolean beats(long[] x, long[] y) {
        boolean less = false;
        for (int i = 0; i < x.length; i++) {
            if (x[i] > y[i]) {
                return false;
            }
            less |= x[i] < y[i];
        }
        return less;
    }

    int pick(int i) {
        if (!in(i, bests)) {
            return NONE;
        }
        lying = bests.get(i);
        return price(lying);
    }

    long trick(int day, int night, boolean odd) {
        int no = obstacle(in(day, b.lamps) && in(night, b.lamps), 100000);
        if (no != 0) {
            return no;
        }
        long most = NONE;
        for (int[] row : askedRows()) {
            if (alikeBy(askedMix(row), mix(asked[0]), day, odd)) {
                long far = apartBy(askedMix(row), mix(asked[0]), light(night), odd);
                if (lying == null || far > most || far == most && ahead(row, lying)) {
                    lying = row;
                    most = far;
                }
            }
        }
        return most;
    }

    int parts(int dye) {
        return lying == null || !in(dye, b.dyes) ? NONE : lying[dye];
    }

    private void weightRows(int lamp, int left, int[] row, List<int[]> into) {
        if (lamp == row.length - 1) {
            row[lamp] = left;
            into.add(row.clone());
            return;
        }
        for (int k = 0; k <= left; k++) {
            row[lamp] = k;
            weightRows(lamp + 1, left - k, row, into);
        }
    }

    long betray(int x, int y, boolean odd) {
        if (mix(x) == null || mix(y) == null || b.lamps.isEmpty()) {
            return NONE;
        }
        List<int[]> all = new ArrayList<>();
        weightRows(0, 10, new int[b.lamps.size()], all);
        long most = NONE;
        for (int[] row : all) {
            int[] light = new int[b.bands];
            for (int i = 0; i < row.length; i++) {
                for (int band = 0; band < b.bands; band++) {
                    light[band] += row[i] * light(i)[band];
                }
            }
            long far = apartBy(mix(x), mix(y), light, odd);
            if (far > most) {
                most = far;
                weights = row;
            }
        }
        return most;
    }

    int weight(int lamp) {
        return weights == null || !in(lamp, b.lamps) ? NONE : weights[lamp];
    }

    int lamp(int x, int y, boolean odd) {
        if (mix(x) == null || mix(y) == null) {
            return NONE;
        }
        int found = NONE;
        for (int i = 0; i < b.lamps.size(); i++) {
            if (found == NONE || apart(x, y, i, odd) > apart(x, y, found, odd)) {
                found = i;
            }
        }
        return found;
    }

    boolean set(int ground) {
        if (!in(ground, b.grounds)) {
            return false;
        }
        vat = new Mix(ground, new int[b.dyes.size()]);
        days = 0;
        return true;
    }

    int drop(int dye, int parts) {
        if (!in(dye, b.dyes) || parts < 1 || parts > 24 || b.grounds.isEmpty() || vat.total() + parts > b.most) {
            return NONE;
        }
        vat.parts[dye] += parts;
        if (b.slip != 0) {
            w = w * 1103515245 + 12345;
            if ((w >>> 16) % 10 < b.slip && vat.total() < b.most) {
                vat.parts[dye]++;
                return parts + 1;
            }
        }
        return parts;
    }

    int days(int more) {
        if (more < 0 || more > 1000) {
            return NONE;
        }
        int before = vat.total();
        for (int i = 0; i < more; i++) {
            days++;
            for (int d = 0; d < vat.parts.length; d++) {
                int fast = b.dyes.get(d).fast;
                if (fast != 0 && days % fast == 0) {
                    vat.parts[d] = Math.max(0, vat.parts[d] - 1);
                }
            }
        }
        return before - vat.total();
    }

    int vat(int dye) {
        return in(dye, b.dyes) ? vat.parts[dye] : NONE;
    }

    private List<int[]> olds() {
        List<int[]> all = new ArrayList<>();
        for (int g = 0; g < b.goods.size(); g++) {
            all.add(new int[] {g, NONE});
        }
        for (int g = 0; g < b.goods.size(); g++) {
            for (int d = 0; d < b.dyes.size(); d++) {
                if (b.goods.get(g).row[d] > 0) {
                    all.add(new int[] {g, d});
                }
            }
        }
        return all;
    }

    private Mix oldMix(int i) {
        int[] old = olds().get(i);
        int[] parts = b.goods.get(old[0]).row.clone();
        if (old[1] != NONE) {
            parts[old[1]] = 0;
        }
        return new Mix(b.goods.get(old[0]).ground, parts);
    }

    int old() {
        return olds().size();
    }

    int oldOne(int old, int what) {
        return in(old, olds()) && (what == 0 || what == 1) ? olds().get(old)[what] : -2;
    }

    int look(int lamp, int eye, int much, int some) {
        boolean can = in(lamp, b.lamps) && in(eye, b.eyes) && much >= 0 && much <= 9999999;
        if (!can || some < 0 || some > 9999 || looks.size() == 40) {
            return NONE;
        }
        looks.add(new Look(lamp, eye, much, some, time, new int[] {Integer.MIN_VALUE}));
        return looks.size() - 1;
    }

    boolean untell(int look) {
        if (!in(look, looks) || looks.get(look).untold[0] != Integer.MIN_VALUE) {
            return false;
        }
        looks.get(look).untold[0] = time;
        return true;
    }

    int later(int by) {
        if (by < 0 || by > 1000 || time + by > 100000) {
            return NONE;
        }
        time += by;
        return time;
    }

    private List<Integer> agreeing(int k) {
        List<Integer> all = new ArrayList<>();
        for (int i = 0; i < old(); i++) {
            boolean fits = true;
            for (Look l : looks) {
                boolean untold = l.untold[0] != Integer.MIN_VALUE && l.untold[0] <= k;
                if (l.told <= k && !untold) {
                    long off = seenBy(oldMix(i), light(l.lamp), l.eye) - l.much * 1000;
                    fits = fits && Math.abs(off) <= l.some * 1000;
                }
            }
            if (fits) {
                all.add(i);
            }
        }
        return all;
    }

    int agree(int k) {
        return agreeing(k).size();
    }

    int agrees(int i, int k) {
        return in(i, agreeing(k)) ? agreeing(k).get(i) : NONE;
    }

    int next(int what, int k) {
        List<Integer> left = agreeing(k);
        int[] found = null;
        for (int lamp = 0; lamp < b.lamps.size() && !left.isEmpty(); lamp++) {
            for (int eye = 0; eye < b.eyes.size(); eye++) {
                Map<Long, Integer> crowds = new HashMap<>();
                for (int i : left) {
                    crowds.merge(seenBy(oldMix(i), light(lamp), eye) / 1000, 1, Integer::sum);
                }
                int greatest = 0;
                for (int crowd : crowds.values()) {
                    greatest = Math.max(greatest, crowd);
                }
                if (found == null || greatest < found[2]) {
                    found = new int[] {lamp, eye, greatest};
                }
            }
        }
        return found == null || what < 0 || what > 2 ? NONE : found[what];
    }

    int seed(int now) {
        int before = w;
        w = now;
        return before;
    }

    int image(int box) {
        if (box < 0 || box > 2) {
            return NONE;
        }
        boxes[box] = new Image(vat.ground, vat.parts.clone(), days, w);
        return vat.total();
    }

    int back(int box) {
        if (box < 0 || box > 2 || boxes[box] == null) {
            return NONE;
        }
        vat = new Mix(boxes[box].ground, boxes[box].parts.clone());
        days = boxes[box].days;
        w = boxes[box].w;
        return vat.total();
    }

    int about(int what) {
        int[] all = {b.bands, b.dyes.size(), b.grounds.size(), b.lamps.size(), b.eyes.size(), b.goods.size(),
            looks.size(), time, tape.length(), w, days, vat.ground};
        return what < 0 || what >= all.length ? NONE : all[what];
    }
}
