import java.util.Random;

/** Long runs of calls on fresh objects, each answer held against the model's; a fixed seed, so always the same runs. */
public final class ModelTest {
    private static final Due due = new Due("ModelTest");
    private static final String[] BOOK = {"a", "b", "ab", "ba", "aab", "abc", "c", "d", "abcdefghijkl",
        "abcdefghijklmnopqrst", "abcdefghijklmnopqrstu", "abcdefghijklmnopqrstv", "near", "root", "z"};
    private static final String[] ASKING = {"a", "b", "ab", "ba", "c", "d", "near 1", "near 2", "near 5", "before 1",
        "before 3", "far 2", "far 9", "and", "but", "or", "root", "\"", "(", ")", "root a", "root ab", "\"a b\"", "near",
        "50", "51", "0", "7", "\"a", ";", "!", "zz"};
    private static final String[] RULING = {"fold", "stop", "root", "order", "to", "of", ";", "a", "b", "ab", "abc",
        "cba", "q", "5", "(", "aa"};

    private static Random random;
    private static WordPlaces x;
    private static Model m;
    private static int run;
    private static int calls;
    private static boolean dense;

    public static void main(String[] args) {
        int runs = args.length > 0 ? Integer.parseInt(args[0]) : 400;
        long seed = args.length > 1 ? Long.parseLong(args[1]) : 17;
        random = new Random(seed);
        for (run = 0; run < runs; run++) {
            x = new WordPlaces();
            m = new Model();
            calls = 0;
            dense = any(6) == 0;
            for (int i = dense ? 10 + any(45) : any(14); i > 0; i--) {
                addLine();
            }
            while (calls < 512) {
                step();
            }
        }
        due.end();
    }

    private static int any(int n) {
        return random.nextInt(n);
    }

    private static String one(String[] of) {
        return of[any(of.length)];
    }

    /** A word, mostly one of a few, so that they come again. */
    private static String word() {
        return any(4) > 0 ? BOOK[any(5)] : one(BOOK);
    }

    private static int arg(int n) {
        int[] odd = {-1, n, n + 1, -2, 2147483647, -2147483648, 400, 2147483637, 1000};
        return any(12) == 0 ? odd[any(odd.length)] : any(n);
    }

    private static void same(String call, int got, int want) {
        calls++;
        if (calls > 512) {
            // What later calls answer is free.
            return;
        }
        due.is("run " + run + " call " + calls + " " + call, got, want);
    }

    private static void put(String text) {
        for (int i = 0; i < text.length(); i += 20) {
            int[] n = new int[5];
            for (int j = 0; j < 20; j++) {
                n[j / 4] = n[j / 4] << 8 | (i + j < text.length() ? text.charAt(i + j) & 255 : any(256));
            }
            same("feed", x.feed(n[0], n[1], n[2], n[3], n[4]), m.feed(n));
        }
        int end = any(40) == 0 ? arg(401) : m.count(5) - (20 - text.length() % 20) % 20;
        same("end " + end, x.end(end), m.end(end));
    }

    private static String lineText() {
        if (dense && any(3) > 0) {
            return (Due.times("a b ", 15) + "a b").substring(any(9)).substring(0, 54 - any(3)) + (any(2) == 0 ? "-" : "");
        }
        StringBuilder text = new StringBuilder();
        int most = any(3) == 0 ? 60 : any(30);
        while (text.length() < most) {
            text.append(word()).append(any(9) == 0 ? word() : "");
            text.append(any(8) == 0 ? "- " : any(12) == 0 ? "-" : " ");
        }
        if (any(30) == 0) {
            text.append("?");
        }
        if (any(20) > 0 && text.length() > 60) {
            text.setLength(60);
        }
        if (any(3) == 0 && text.length() > 0) {
            text.setCharAt(text.length() - 1, '-');
        }
        return text.toString();
    }

    private static String rulesText() {
        StringBuilder text = new StringBuilder();
        int n = any(10) == 0 ? 19 + any(3) : any(6);
        for (int i = 0; i < n; i++) {
            switch (n > 9 && any(8) > 0 ? 1 : any(6)) {
                case 0 -> text.append("fold ").append((char) ('a' + any(6))).append(" to ").append((char) ('a' + any(6)));
                case 1 -> text.append("stop ").append(word());
                case 2, 3 -> {
                    text.append("root ").append(word()).append(" of");
                    for (int j = any(5) == 0 ? 5 : 1 + any(3); j > 0; j--) {
                        text.append(' ').append(word());
                    }
                }
                case 4 -> text.append("order ").append(any(2) == 0 ? "zca" : any(3) == 0 ? "aa" : "bdn");
                default -> text.append("fold ").append((char) ('m' + any(13))).append(" to ").append((char) ('a' + any(3)));
            }
            text.append(any(30) == 0 ? " " : any(3) == 0 ? " ;\n" : ";");
            if (any(25) == 0) {
                text.append(one(RULING)).append(' ');
            }
        }
        return text.length() > 380 ? text.substring(0, 380) : text.toString();
    }

    private static String unitText(int depth) {
        if (depth < 7 && any(5) == 0) {
            return "(" + askText(depth + 1) + ")";
        }
        return any(6) == 0 ? "root " + word() : any(6) == 0 ? "\"" + word() + " " + word() + "\"" : word();
    }

    private static String askText(int depth) {
        StringBuilder text = new StringBuilder(unitText(depth));
        for (int n = depth == 0 && any(15) == 0 ? 29 + any(3) : any(4); n > 0; n--) {
            text.append(' ').append(ASKING[6 + any(10)]).append(' ').append(any(30) == 0 ? one(ASKING) : unitText(depth));
        }
        return text.toString();
    }

    private static String anyAsk() {
        StringBuilder text = new StringBuilder();
        if (any(4) > 0) {
            text.append(askText(0));
        } else {
            for (int n = any(7); n > 0; n--) {
                text.append(one(ASKING)).append(any(3) == 0 ? "" : " ");
            }
        }
        return text.length() > 380 ? text.substring(0, 380) : text.toString();
    }

    private static void step() {
        if (m.count(5) > 0 && any(3) > 0) {
            same("end", x.end(0), m.end(0));
        }
        switch (any(18)) {
            case 0, 1 -> {
                addLine();
            }
            case 2 -> {
                put(rulesText());
                same("rules", x.rules(), m.rules());
                faults();
            }
            case 3, 4, 11, 12 -> {
                put(anyAsk());
                int e = arg(2);
                same("ask " + e, x.ask(e), m.ask(e));
                faults();
                for (int i = any(12); i > 0; i--) {
                    same("answer " + i + " 0", x.answer(i, 0), m.answer(i, 0));
                }
            }
            case 5 -> {
                put(lineText());
                int e = arg(2);
                int i = arg(1 + Math.max(0, m.edition(any(2), 0)));
                same("right " + e + " " + i, x.right(e, i), m.right(e, i));
            }
            case 6, 13, 14, 15 -> slipCalls();
            case 7 -> tapeCalls();
            case 8 -> slotCalls();
            case 9 -> {
                int k = arg(3);
                same("keep " + k, x.keep(k), m.keep(k));
            }
            case 10 -> {
                int k = any(3) > 0 ? -1 : arg(3);
                same("back " + k, x.back(k), m.back(k));
            }
            default -> { }
        }
        for (int n = any(6); n > 0; n--) {
            look();
        }
    }

    private static void addLine() {
        put(lineText());
        int e = dense && any(9) > 0 ? 0 : arg(2);
        same("line " + e, x.line(e), m.line(e));
    }

    private static void faults() {
        int what = arg(2);
        same("fault " + what, x.fault(what), m.fault(what));
        same("fault 1", x.fault(1), m.fault(1));
    }

    private static void slipCalls() {
        put(any(9) == 0 ? lineText() : word());
        int h = arg(4);
        int p = arg(any(2) == 0 ? 9 : 1 + m.edition(0, 1));
        same("slip " + h + " " + p, x.slip(h, p), m.slip(h, p));
    }

    private static void tapeCalls() {
        put(any(3) == 0 ? lineText() : word() + one(new String[] {"", " ", ",", "X"}) + (any(2) == 0 ? word() : ""));
        int e = arg(2);
        switch (any(3)) {
            case 0 -> same("begins", x.begins(), m.begins());
            default -> same("rank " + e, x.rank(e), m.rank(e));
        }
    }

    private static void slotCalls() {
        int slot = arg(4);
        int n = any(3) == 0 ? arg(61) : any(9);
        int width = any(2) * arg(4);
        same("row " + slot + " " + width + " " + n, x.row(slot, width, n), m.row(slot, width, n));
        for (int i = 0; i < 6; i++) {
            int s = arg(4);
            int at = arg(8);
            long v = any(5) == 0 ? random.nextLong() : one(BOOK).charAt(0) + 256L * any(3);
            v = any(9) == 0 ? '-' : v;
            same("write " + s + " " + at + " " + v, x.write(s, at, v), m.write(s, at, v));
        }
        int a = arg(4);
        int b = arg(4);
        int i = arg(7);
        int k = arg(7);
        int many = arg(7);
        same("paste " + a + " " + i + " " + b + " " + k + " " + many, x.paste(a, i, b, k, many), m.paste(a, i, b, k, many));
        int e = arg(2);
        int s = arg(4);
        same("lineOf " + e + " " + s, x.lineOf(e, s), m.lineOf(e, s));
    }

    private static void look() {
        int e = arg(2);
        int p = arg(1 + Math.max(1, m.edition(any(2), 1)));
        int f = arg(1 + m.forms());
        int i = arg(5);
        switch (any(24)) {
            case 0 -> same("edition " + e + " " + i, x.edition(e, i), m.edition(e, i));
            case 1, 2 -> same("word " + e + " " + p + " " + i, x.word(e, p, i), m.word(e, p, i));
            case 3 -> same("forms", x.forms(), m.forms());
            case 4 -> same("form " + f + " " + i, x.form(f, i), m.form(f, i));
            case 5 -> same("form " + f + " 10+", x.form(f, 5 + i * 5), m.form(f, 5 + i * 5));
            case 6 -> same("ordered " + f, x.ordered(f), m.ordered(f));
            case 7, 8 -> same("answer " + p + " " + i, x.answer(p, i), m.answer(p, i));
            case 9 -> same("answer " + i + " 0", x.answer(i, 0), m.answer(i, 0));
            case 10 -> same("stands " + e + " " + f + " " + i, x.stands(e, f, i), m.stands(e, f, i));
            case 11 -> same("pack " + e + " " + f + " " + (i - 1), x.pack(e, f, i - 1), m.pack(e, f, i - 1));
            case 12 -> same("room " + e, x.room(e), m.room(e));
            case 13 -> {
                int n = arg(9);
                same("shares " + e + " " + n, x.shares(e, n), m.shares(e, n));
                for (int h = 0; h < 9; h++) {
                    same("share " + h, x.share(h), m.share(h));
                }
            }
            case 14 -> same("alike", x.alike(), m.alike());
            case 15, 16 -> same("matched " + p, x.matched(p), m.matched(p));
            case 17 -> same("hand " + e + " " + i, x.hand(e, i), m.hand(e, i));
            case 18 -> same("copied", x.copied(e, i), m.copied(e, i));
            case 19 -> same("ranked " + i + " " + e, x.ranked(i, e), m.ranked(i, e));
            case 20 -> same("begun " + i, x.begun(i), m.begun(i));
            case 21 -> {
                int n = any(2) == 0 ? 5 + any(5) : arg(101);
                same("print " + e + " " + n, x.print(e, n), m.print(e, n));
                for (int g = 0; g < 5; g++) {
                    same("page " + g, x.page(g), m.page(g));
                }
                same("page " + f, x.page(f), m.page(f));
            }
            case 22 -> same("share " + i, x.share(i), m.share(i));
            default -> {
                int what = arg(9);
                same("count " + what, x.count(what), m.count(what));
            }
        }
    }
}
