import java.util.Random;

/** Makes bench texts, sound and unsound ones, and the numbers by which they are fed. */
final class Texts {
    private Texts() { }

    /** The text as fives of numbers, filled up with zero bytes. */
    static int[][] numbers(String text) {
        int[][] fives = new int[(text.length() + 19) / 20][5];
        for (int i = 0; i < text.length(); i++) {
            fives[i / 20][i % 20 / 4] |= (text.charAt(i) & 255) << 24 - 8 * (i % 4);
        }
        return fives;
    }

    static void feed(DyeLamps x, String text) {
        for (int[] n : numbers(text)) {
            x.feed(n[0], n[1], n[2], n[3], n[4]);
        }
        x.end(text.length());
    }

    static int bench(DyeLamps x, String text) {
        feed(x, text);
        return x.bench();
    }

    static String row(Random r, int count, int greatest) {
        StringBuilder s = new StringBuilder("of");
        int tops = r.nextInt(4);
        for (int i = 0; i < count; i++) {
            s.append(' ').append(tops == 0 ? greatest * r.nextInt(2) : r.nextInt(greatest + 1));
        }
        return s.append(";").toString();
    }

    static String sound(Random r) {
        int bands = 1 + r.nextInt(r.nextInt(4) == 0 ? 16 : 3);
        int dyes = some(r, 8);
        int grounds = some(r, 4);
        int most = 1 + r.nextInt(r.nextInt(3) == 0 ? 24 : 6);
        StringBuilder s = new StringBuilder();
        setting(s, r, "slip", r.nextInt(10));
        s.append("bands ").append(bands).append(r.nextBoolean() ? ";" : " ;\n");
        if (r.nextInt(3) == 0) {
            s.append("over;");
        }
        for (int i = 0; i < dyes; i++) {
            s.append("dye ").append((char) ('a' + i)).append(" price ");
            s.append(r.nextInt(4) == 0 ? r.nextInt(100) : r.nextInt(4)).append(" fast ").append(r.nextInt(5));
            s.append(' ').append(row(r, bands, 99));
        }
        things(s, r, "ground", grounds, bands, 99);
        s.append("most ").append(most).append(';');
        things(s, r, "lamp", some(r, 6), bands, r.nextInt(3) == 0 ? 99 : 3);
        things(s, r, "eye", some(r, 4), bands, r.nextInt(3) == 0 ? 9 : 2);
        if (dyes > 0 && grounds > 0) {
            goods(s, r, 1 + r.nextInt(r.nextInt(3) == 0 ? 8 : 3), grounds, dyes, most);
        }
        setting(s, r, "alike", r.nextBoolean() ? r.nextInt(10000) : r.nextInt(60));
        return s.toString();
    }

    /** Seldom none, often few. */
    private static int some(Random r, int greatest) {
        return r.nextInt(16) == 0 ? 0 : 1 + r.nextInt(r.nextInt(3) == 0 ? greatest : 3);
    }

    private static void setting(StringBuilder s, Random r, String word, int value) {
        if (r.nextInt(3) > 0) {
            s.append(word).append(' ').append(value).append(';');
        }
    }

    private static void things(StringBuilder s, Random r, String sort, int count, int bands, int greatest) {
        for (int i = 0; i < count; i++) {
            s.append(sort).append(' ').append((char) ('a' + i)).append(' ').append(row(r, bands, greatest));
        }
    }

    private static void goods(StringBuilder s, Random r, int count, int grounds, int dyes, int most) {
        for (int i = 0; i < count; i++) {
            s.append("good ").append((char) ('a' + i)).append(" on ").append((char) ('a' + r.nextInt(grounds)));
            s.append(" of");
            int left = most;
            for (int d = 0; d < dyes; d++) {
                int p = r.nextInt(3) == 0 ? 0 : r.nextInt(left + 1);
                left -= p;
                s.append(' ').append(p);
            }
            s.append(';');
        }
    }

    private static final String[] SCRAPS = {";", " ", "\n", "a", "z", "0", "9", "17", "100", "12345", "abcdefghi", "abcdefgh",
        "of", "on", "dye", "good", "bands 3;", "most 5;", "over;", "slip 3;", "alike 7;", "$", "A", "\t", "\u00e9", "\u0000",
        "ground q of 1;", "lamp q of 1;", "eye q of 1;", "dye q price 1 fast 1 of 1;", "good q on a of 1;", "price", "fast", "a1", "1a"};

    /** A sound text with something put in, taken out, doubled or cut off. */
    static String unsound(Random r) {
        StringBuilder s = new StringBuilder(sound(r));
        for (int i = r.nextInt(2); i >= 0; i--) {
            int at = s.length() == 0 ? 0 : r.nextInt(s.length());
            switch (r.nextInt(8)) {
                case 0 -> s.insert(at, SCRAPS[r.nextInt(SCRAPS.length)]);
                case 1 -> s.delete(at, Math.min(s.length(), at + 1 + r.nextInt(3)));
                case 2 -> s.setLength(at);
                case 3 -> doubleLine(s, at);
                case 4, 5 -> changeNumber(s, r, at);
                case 6 -> changeName(s, r, at);
                default -> s.replace(at, Math.min(s.length(), at + 1), SCRAPS[r.nextInt(SCRAPS.length)]);
            }
        }
        return s.toString();
    }

    private static void changeNumber(StringBuilder s, Random r, int from) {
        for (int at = from; at < s.length(); at++) {
            if (Character.isDigit(s.charAt(at))) {
                int[] edges = {0, 1, 9, 10, 16, 17, 24, 25, 99, 100, 9999, 12};
                s.replace(at, at + 1, Integer.toString(edges[r.nextInt(edges.length)]));
                return;
            }
        }
    }

    private static void changeName(StringBuilder s, Random r, int from) {
        for (int at = Math.max(1, from); at + 1 < s.length(); at++) {
            if (s.charAt(at - 1) == ' ' && Character.isLetter(s.charAt(at)) && s.charAt(at + 1) == ' ') {
                s.setCharAt(at, (char) ('a' + r.nextInt(6)));
                return;
            }
        }
    }

    private static void doubleLine(StringBuilder s, int at) {
        int from = s.lastIndexOf(";", Math.max(0, at - 1)) + 1;
        int to = s.indexOf(";", at) + 1;
        if (to > from) {
            s.insert(to, s.substring(from, to));
        }
    }
}
