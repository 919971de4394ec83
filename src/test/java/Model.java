import java.util.ArrayList;
import java.util.Arrays;
import java.util.HashSet;
import java.util.List;
import java.util.Set;
import java.util.TreeMap;
import java.util.TreeSet;

/** The document once more, written with texts, sets and trying out, to hold the class against. */
final class Model {
    private static final int NOTHING = -2000000000;
    private static final List<String> RESERVED = List.of("near", "before", "far", "and", "but", "or", "root");

    /** A FAULT, thrown where it is found. */
    static final class Fault extends RuntimeException {
        private static final long serialVersionUID = 1L;
        final int number;
        final int place;

        Fault(int number, int place) {
            this.number = number;
            this.place = place;
        }
    }

    record Token(String text, int place) { }

    record Word(String form, int line, int ordinal, boolean cut) { }

    record Root(String own, List<String> behind) { }

    static final class Told {
        int rules = 0;
        TreeMap<Character, Character> folds = new TreeMap<>();
        List<String> stops = new ArrayList<>();
        List<Root> roots = new ArrayList<>();
        String order = null;

        String form(String letters) {
            StringBuilder text = new StringBuilder();
            for (char letter : letters.toCharArray()) {
                text.append(folds.getOrDefault(letter, letter));
            }
            return text.substring(0, Math.min(20, text.length()));
        }

        String sorting(String form) {
            StringBuilder all = new StringBuilder(order == null ? "" : order);
            for (char c = 'a'; c <= 'z'; c++) {
                if (all.indexOf("" + c) < 0) {
                    all.append(c);
                }
            }
            StringBuilder text = new StringBuilder();
            for (char c : form.toCharArray()) {
                text.append((char) ('A' + all.indexOf("" + c)));
            }
            return text.toString();
        }
    }

    private String tape = "";
    private Told told = new Told();
    private List<List<String>> lines = List.of(new ArrayList<>(), new ArrayList<>());
    private List<TreeMap<Integer, String>> slips = new ArrayList<>();
    private final Object[][] images = new Object[3][];
    private int fault = 0;
    private int faultPlace = -1;
    private List<int[]> answers = new ArrayList<>();
    private List<Integer> starts = new ArrayList<>();
    private List<int[]> ranks = new ArrayList<>();
    private List<Integer> begun = new ArrayList<>();
    private TreeMap<Integer, Integer> pages = new TreeMap<>();
    private final long[][] rows = new long[4][];
    private final int[] widths = new int[4];

    Model() {
        for (int h = 0; h < 4; h++) {
            slips.add(new TreeMap<>());
        }
    }

    private static boolean edition0(int e) {
        return e == 0 || e == 1;
    }

    int feed(int... numbers) {
        if (tape.length() > 380) {
            return -1;
        }
        for (int number : numbers) {
            tape += "" + (char) (number >>> 24) + (char) (number >>> 16 & 255) + (char) (number >>> 8 & 255)
                + (char) (number & 255);
        }
        return tape.length();
    }

    int end(int n) {
        if (n < 0 || n > tape.length()) {
            return -1;
        }
        tape = tape.substring(0, n);
        return n;
    }

    private String take() {
        String text = tape;
        tape = "";
        return text;
    }

    // TOKENS.

    private static List<Token> tokens(String text) {
        List<Token> all = new ArrayList<>();
        java.util.regex.Matcher m = java.util.regex.Pattern.compile("[a-z]+|[0-9]+|[^ \\n]", java.util.regex.Pattern.DOTALL)
            .matcher(text);
        while (m.find()) {
            all.add(new Token(m.group(), m.start()));
        }
        all.add(new Token("", text.length()));
        return all;
    }

    private static boolean isWord(Token t) {
        return t.text.matches("[a-z]+");
    }

    private static void need(boolean good, int number, Token t) {
        if (!good) {
            throw new Fault(number, t.place);
        }
    }

    int rules() {
        try {
            told = readRules(tokens(take()));
            fault = 0;
            faultPlace = -1;
            return told.rules;
        } catch (Fault f) {
            fault = f.number;
            faultPlace = f.place;
            return -4;
        }
    }

    private static Told readRules(List<Token> in) {
        Told t = new Told();
        List<String> stops = new ArrayList<>();
        List<List<String>> roots = new ArrayList<>();
        int at = 0;
        while (!in.get(at).text.isEmpty()) {
            Token first = in.get(at++);
            need(List.of("fold", "stop", "root", "order").contains(first.text), 1, first);
            need(!first.text.equals("order") || t.order == null, 2, first);
            need(t.rules < 20, 3, first);
            Token second = in.get(at++);
            switch (first.text) {
                case "fold" -> {
                    need(second.text.matches("[a-z]"), 1, second);
                    need(!t.folds.containsKey(second.text.charAt(0)), 2, second);
                    Token to = in.get(at++);
                    need(to.text.equals("to"), 1, to);
                    Token last = in.get(at++);
                    need(last.text.matches("[a-z]"), 1, last);
                    t.folds.put(second.text.charAt(0), last.text.charAt(0));
                }
                case "stop" -> {
                    need(isWord(second), 1, second);
                    stops.add(second.text);
                }
                case "order" -> {
                    need(isWord(second), 1, second);
                    need(second.text.chars().distinct().count() == second.text.length(), 2, second);
                    t.order = second.text;
                }
                default -> {
                    need(isWord(second), 1, second);
                    Token of = in.get(at++);
                    need(of.text.equals("of"), 1, of);
                    List<String> row = new ArrayList<>(List.of(second.text));
                    Token member = in.get(at++);
                    need(isWord(member), 1, member);
                    row.add(member.text);
                    while (isWord(in.get(at))) {
                        need(row.size() < 5, 3, in.get(at));
                        row.add(in.get(at++).text);
                    }
                    roots.add(row);
                }
            }
            Token last = in.get(at++);
            need(last.text.equals(";"), 1, last);
            t.rules++;
        }
        stops.forEach(s -> t.stops.add(t.form(s)));
        for (List<String> row : roots) {
            t.roots.add(new Root(t.form(row.get(0)), row.stream().skip(1).map(t::form).toList()));
        }
        return t;
    }

    int fault(int what) {
        return what == 0 ? fault : what == 1 ? faultPlace : -1;
    }

    // LINES.

    /** WORDS of LINES, by putting each CUT RUN's end in place of a sign that no LINE has. */
    private static List<Word> words(List<String> lines, Told t) {
        List<Word> all = new ArrayList<>();
        String open = null;
        int openLine = 0;
        int openOrdinal = 0;
        for (int i = 0; i < lines.size(); i++) {
            String text = lines.get(i);
            List<String> runs = new ArrayList<>(Arrays.asList(text.split("[^a-z]+")));
            runs.removeIf(String::isEmpty);
            boolean cut = text.matches(".*[a-z]-") && i + 1 < lines.size() && lines.get(i + 1).matches(".*[a-z].*");
            int ordinal = 0;
            for (int j = 0; j < runs.size(); j++) {
                boolean cutHere = cut && j == runs.size() - 1;
                boolean goesOn = open != null;
                String letters = goesOn ? open + runs.get(j) : runs.get(j);
                int line = goesOn ? openLine : i;
                int place = goesOn ? openOrdinal : ordinal++;
                open = null;
                if (cutHere) {
                    open = letters;
                    openLine = line;
                    openOrdinal = place;
                } else {
                    all.add(new Word(t.form(letters), line, place, goesOn));
                }
            }
        }
        return all;
    }

    private List<Word> words(int e) {
        return words(lines.get(e), told);
    }

    int line(int e) {
        return edition0(e) ? addLine(e, take()) : -2;
    }

    int addLine(int e, String text) {
        List<String> next = new ArrayList<>(lines.get(e));
        next.add(text);
        int answer = put(e, next, text);
        return answer < 0 ? answer : next.size() - 1;
    }

    private int put(int e, List<String> next, String text) {
        if (!text.matches("[a-z -]{0,60}")) {
            return -4;
        }
        int n = words(next, told).size();
        if (next.size() > 40 || n > 300) {
            return -3;
        }
        lines = e == 0 ? List.of(next, lines.get(1)) : List.of(lines.get(0), next);
        return n;
    }

    int right(int e, int i) {
        if (!edition0(e) || i < 0 || i >= lines.get(e).size()) {
            return -2;
        }
        String text = take();
        List<String> next = new ArrayList<>(lines.get(e));
        next.set(i, text);
        return put(e, next, text);
    }

    int lineOf(int e, int slot) {
        if (!edition0(e) || slot < 0 || slot > 3) {
            return -2;
        }
        if (rows[slot] == null) {
            return -6;
        }
        if (widths[slot] != 0) {
            return -8;
        }
        StringBuilder text = new StringBuilder();
        for (long v : rows[slot]) {
            text.append((char) (v & 255));
        }
        return addLine(e, text.toString());
    }

    int edition(int e, int what) {
        if (!edition0(e) || what < 0 || what > 2) {
            return NOTHING;
        }
        List<Word> all = words(e);
        return what == 0 ? lines.get(e).size() : what == 1 ? all.size() : (int) all.stream().map(Word::form).distinct().count();
    }

    private List<String> allForms() {
        Set<String> all = new TreeSet<>();
        words(0).forEach(w -> all.add(w.form));
        words(1).forEach(w -> all.add(w.form));
        return new ArrayList<>(all);
    }

    int word(int e, int p, int what) {
        if (!edition0(e) || what < 0 || what > 3 || p < 0 || p >= words(e).size()) {
            return NOTHING;
        }
        Word w = words(e).get(p);
        return what == 0 ? allForms().indexOf(w.form) : what == 1 ? w.line : what == 2 ? w.ordinal : w.cut ? 1 : 0;
    }

    int forms() {
        return allForms().size();
    }

    private List<Integer> places(int e, String form) {
        List<Integer> all = new ArrayList<>();
        List<Word> words = words(e);
        for (int p = 0; p < words.size(); p++) {
            if (words.get(p).form.equals(form)) {
                all.add(p);
            }
        }
        return all;
    }

    int form(int f, int what) {
        List<String> all = allForms();
        if (f < 0 || f >= all.size() || what < 0 || (what > 4 && what < 10)) {
            return NOTHING;
        }
        String form = all.get(f);
        switch (what) {
            case 0: return form.length();
            case 1: return places(0, form).size();
            case 2: return places(1, form).size();
            case 3: return told.stops.contains(form) ? 1 : 0;
            case 4:
                for (int r = 0; r < told.roots.size(); r++) {
                    if (told.roots.get(r).behind.contains(form)) {
                        return r;
                    }
                }
                return -1;
            default: return what - 10 < form.length() ? form.charAt(what - 10) : -1;
        }
    }

    private List<String> orderedForms() {
        List<String> all = allForms();
        all.sort((a, b) -> told.sorting(a).compareTo(told.sorting(b)));
        return all;
    }

    int ordered(int i) {
        List<String> all = orderedForms();
        return i < 0 || i >= all.size() ? -1 : allForms().indexOf(all.get(i));
    }

    // ASKS.

    private List<Token> asked;
    private int askAt;
    private int units;
    private List<Word> askWords;

    int ask(int e) {
        if (!edition0(e)) {
            return -2;
        }
        asked = tokens(take());
        askAt = 0;
        units = 0;
        askWords = words(e);
        fault = 0;
        faultPlace = -1;
        try {
            TreeSet<Integer> found = ask(e, 0);
            need(asked.get(askAt).text.isEmpty(), 1, asked.get(askAt));
            answers = new ArrayList<>();
            for (int p : found) {
                answers.add(new int[] {p, askWords.get(p).line, askWords.get(p).ordinal});
            }
            return found.size();
        } catch (Fault f) {
            fault = f.number;
            faultPlace = f.place;
            return -4;
        }
    }

    private TreeSet<Integer> ask(int e, int depth) {
        TreeSet<Integer> left = unit(e, depth);
        while (!asked.get(askAt).text.isEmpty() && !asked.get(askAt).text.equals(")")) {
            Token op = asked.get(askAt++);
            need(!op.text.equals("root") && RESERVED.contains(op.text), 1, op);
            int n = 0;
            if (List.of("near", "before", "far").contains(op.text)) {
                Token number = asked.get(askAt++);
                need(number.text.matches("[0-9]+"), 1, number);
                java.math.BigInteger big = new java.math.BigInteger(number.text);
                need(big.signum() > 0 && big.compareTo(java.math.BigInteger.valueOf(50)) <= 0, 2, number);
                n = big.intValue();
            }
            TreeSet<Integer> right = unit(e, depth);
            left = work(left, op.text, n, right);
        }
        return left;
    }

    private TreeSet<Integer> work(TreeSet<Integer> a, String op, int n, TreeSet<Integer> b) {
        TreeSet<Integer> out = new TreeSet<>();
        if (op.equals("or")) {
            out.addAll(a);
            out.addAll(b);
            return out;
        }
        for (int p : a) {
            boolean near = b.stream().anyMatch(q -> q != p && Math.abs(p - q) <= n);
            boolean before = b.stream().anyMatch(q -> q - p >= 1 && q - p <= n);
            boolean same = b.stream().anyMatch(q -> askWords.get(p).line == askWords.get(q).line);
            boolean in = switch (op) {
                case "near" -> near;
                case "before" -> before;
                case "far" -> !near;
                case "and" -> same;
                default -> !same;
            };
            if (in) {
                out.add(p);
            }
        }
        return out;
    }

    private TreeSet<Integer> unit(int e, int depth) {
        Token first = asked.get(askAt++);
        boolean free = isWord(first) && !RESERVED.contains(first.text);
        need(free || List.of("root", "\"", "(").contains(first.text), 1, first);
        units++;
        need(units <= 30, 3, first);
        TreeSet<Integer> out = new TreeSet<>();
        if (free) {
            if (!told.stops.contains(told.form(first.text))) {
                out.addAll(places(e, told.form(first.text)));
            }
        } else if (first.text.equals("root")) {
            Token word = asked.get(askAt++);
            need(isWord(word) && !RESERVED.contains(word.text), 1, word);
            String own = told.form(word.text);
            for (Root r : told.roots) {
                if (r.own.equals(own)) {
                    out.addAll(places(e, own));
                    r.behind.forEach(form -> out.addAll(places(e, form)));
                    break;
                }
            }
        } else if (first.text.equals("(")) {
            need(depth < 6, 3, first);
            out.addAll(ask(e, depth + 1));
            need(asked.get(askAt).text.equals(")"), 1, asked.get(askAt));
            askAt++;
        } else {
            List<String> row = new ArrayList<>();
            while (isWord(asked.get(askAt))) {
                row.add(told.form(asked.get(askAt++).text));
            }
            need(asked.get(askAt).text.equals("\"") && !row.isEmpty(), 1, asked.get(askAt));
            askAt++;
            for (int p = 0; p + row.size() <= askWords.size(); p++) {
                if (askWords.subList(p, p + row.size()).stream().map(Word::form).toList().equals(row)) {
                    out.add(p);
                }
            }
        }
        return out;
    }

    int answer(int i, int what) {
        return i < 0 || i >= answers.size() || what < 0 || what > 2 ? NOTHING : answers.get(i)[what];
    }

    // LISTS.

    private boolean noForm(int f) {
        return f < 0 || f >= forms();
    }

    int stands(int e, int f, int i) {
        if (!edition0(e) || noForm(f)) {
            return -1;
        }
        List<Integer> all = places(e, allForms().get(f));
        return i < 0 || i >= all.size() ? -1 : all.get(i);
    }

    int pack(int e, int f, int k) {
        if (!edition0(e) || noForm(f) || k < -1 || k > 10) {
            return -2;
        }
        List<Integer> all = places(e, allForms().get(f));
        int least = Integer.MAX_VALUE;
        for (int tried = 0; tried <= 10; tried++) {
            int sum = 0;
            for (int i = 0; i < all.size(); i++) {
                int gap = i == 0 ? all.get(0) + 1 : all.get(i) - all.get(i - 1);
                sum += (gap - 1) / (int) Math.pow(2, tried) + 1 + tried;
            }
            if (tried == k) {
                return sum;
            }
            least = Math.min(least, sum);
        }
        return least;
    }

    int room(int e) {
        if (!edition0(e)) {
            return -2;
        }
        int sum = 0;
        for (int f = 0; f < forms(); f++) {
            sum += pack(e, f, -1);
        }
        return sum;
    }

    // SHARES: all ways to end them are ranked from behind.

    int shares(int e, int n) {
        if (!edition0(e) || n < 1 || n > 8) {
            return -2;
        }
        int count = lines.get(e).size();
        int[] in = new int[count];
        words(e).forEach(w -> in[w.line]++);
        int[][] best = new int[n + 1][count + 1];
        for (int[] row : best) {
            Arrays.fill(row, 1000000);
        }
        best[0][count] = 0;
        for (int hands = 1; hands <= n; hands++) {
            for (int from = 0; from <= count; from++) {
                int sum = 0;
                for (int to = from; to <= count; to++) {
                    best[hands][from] = Math.min(best[hands][from], Math.max(sum, best[hands - 1][to]));
                    sum += to < count ? in[to] : 0;
                }
            }
        }
        starts = new ArrayList<>();
        int most = best[n][0];
        int from = 0;
        for (int hands = n; hands >= 1; hands--) {
            starts.add(from);
            int to = from;
            while (best[hands - 1][to] > most) {
                to++;
            }
            from = to;
        }
        return most;
    }

    int share(int i) {
        return i < 0 || i >= starts.size() ? -1 : starts.get(i);
    }

    // LIKENESS.

    private int[][] mostTable() {
        List<Word> a = words(0);
        List<Word> b = words(1);
        int[][] most = new int[a.size() + 1][b.size() + 1];
        for (int p = a.size() - 1; p >= 0; p--) {
            for (int q = b.size() - 1; q >= 0; q--) {
                most[p][q] = Math.max(most[p + 1][q], most[p][q + 1]);
                if (a.get(p).form.equals(b.get(q).form)) {
                    most[p][q] = Math.max(most[p][q], 1 + most[p + 1][q + 1]);
                }
            }
        }
        return most;
    }

    int alike() {
        return mostTable()[0][0];
    }

    int matched(int at) {
        List<Word> a = words(0);
        List<Word> b = words(1);
        int[][] most = mostTable();
        int p = 0;
        int q = 0;
        while (p < a.size() && q < b.size()) {
            if (a.get(p).form.equals(b.get(q).form) && most[p][q] == 1 + most[p + 1][q + 1]) {
                if (p == at) {
                    return q;
                }
                p++;
                q++;
            } else if (most[p + 1][q] == most[p][q]) {
                p++;
            } else {
                q++;
            }
        }
        return -1;
    }

    // SLIPS.

    int slip(int h, int p) {
        if (h < 0 || h > 3 || p < 0 || p >= words(0).size()) {
            return -2;
        }
        String text = take();
        if (!text.matches("[a-z]{1,20}")) {
            return -4;
        }
        slips.get(h).put(p, text);
        return wrong(words(0), h, p) ? 0 : 1;
    }

    private boolean wrong(List<Word> words, int h, int p) {
        return p >= words.size() || !words.get(p).form.equals(slipForm(h, p));
    }

    /** A SLIP is a FORM: made anew by the RULES that stand now. */
    private String slipForm(int h, int p) {
        String text = slips.get(h).get(p);
        return text == null ? "" : told.form(text);
    }

    int hand(int h, int what) {
        if (h < 0 || h > 3 || what < 0 || what > 2) {
            return NOTHING;
        }
        List<Word> words = words(0);
        int wrong = 0;
        Set<Integer> bare = new HashSet<>();
        for (int p = 0; p < words.size(); p++) {
            bare.add(p);
        }
        for (int p : slips.get(h).keySet()) {
            wrong += wrong(words, h, p) ? 1 : 0;
            bare.remove(p);
        }
        return what == 0 ? slips.get(h).size() : what == 1 ? wrong : bare.size();
    }

    int copied(int a, int b) {
        if (a < 0 || a > 3 || b < 0 || b > 3 || a == b) {
            return -2;
        }
        List<Word> words = words(0);
        return (int) slips.get(a).keySet().stream()
            .filter(p -> wrong(words, a, p) && slipForm(a, p).equals(slipForm(b, p))).count();
    }

    // Ranks, beginnings, PAGES.

    int rank(int e) {
        if (!edition0(e)) {
            return -2;
        }
        Set<String> wanted = new HashSet<>();
        for (String run : take().split("[^a-z]+")) {
            if (!run.isEmpty()) {
                wanted.add(told.form(run));
            }
        }
        int[] worth = new int[40];
        for (String form : wanted) {
            Set<Integer> in = new HashSet<>();
            places(e, form).forEach(p -> in.add(words(e).get(p).line));
            in.forEach(line -> worth[line] += 1000 / in.size());
        }
        ranks = new ArrayList<>();
        for (int line = 0; line < 40; line++) {
            if (worth[line] > 0) {
                ranks.add(new int[] {line, worth[line]});
            }
        }
        ranks.sort((a, b) -> b[1] - a[1]);
        return ranks.size();
    }

    int ranked(int i, int what) {
        return i < 0 || i >= ranks.size() || what < 0 || what > 1 ? NOTHING : ranks.get(i)[what];
    }

    int begins() {
        String text = take().replaceAll("[^a-z]", "");
        StringBuilder folded = new StringBuilder();
        for (char c : text.toCharArray()) {
            folded.append(told.form("" + c));
        }
        begun = new ArrayList<>();
        List<String> all = allForms();
        for (int f = 0; f < all.size(); f++) {
            if (all.get(f).startsWith(folded.toString())) {
                begun.add(f);
            }
        }
        return begun.size();
    }

    int begun(int i) {
        return i < 0 || i >= begun.size() ? -1 : begun.get(i);
    }

    int print(int e, int n) {
        if (!edition0(e) || n < 5 || n > 100) {
            return -2;
        }
        pages = new TreeMap<>();
        List<Integer> left = new ArrayList<>();
        for (String form : orderedForms()) {
            int often = places(e, form).size();
            if (often == 0 || told.stops.contains(form)) {
                continue;
            }
            int rows = 1 + often / 6 + (often % 6 > 0 ? 1 : 0);
            if (left.isEmpty() || (left.get(left.size() - 1) < n && left.get(left.size() - 1) < rows)) {
                left.add(n);
            }
            pages.put(allForms().indexOf(form), left.size() - 1);
            while (rows > 0) {
                if (left.get(left.size() - 1) == 0) {
                    left.add(n);
                }
                left.set(left.size() - 1, left.get(left.size() - 1) - 1);
                rows--;
            }
        }
        return left.size();
    }

    int page(int f) {
        return pages.getOrDefault(f, -1);
    }

    int count(int what) {
        switch (what) {
            case 0: return lines.get(0).size() + lines.get(1).size();
            case 1: return words(0).size() + words(1).size();
            case 2: return told.rules;
            case 3: return told.stops.size();
            case 4: return told.roots.size();
            case 5: return tape.length();
            case 6: return slips.stream().mapToInt(TreeMap::size).sum();
            case 7: return (int) Arrays.stream(rows).filter(r -> r != null).count();
            case 8: return told.folds.size();
            default: return -1;
        }
    }

    private List<TreeMap<Integer, String>> copyOfSlips(List<?> from) {
        List<TreeMap<Integer, String>> copy = new ArrayList<>();
        for (Object map : from) {
            TreeMap<Integer, String> one = new TreeMap<>();
            ((TreeMap<?, ?>) map).forEach((p, form) -> one.put((Integer) p, (String) form));
            copy.add(one);
        }
        return copy;
    }

    int keep(int k) {
        if (k < 0 || k > 2) {
            return -2;
        }
        images[k] = new Object[] {told, lines.get(0), lines.get(1), copyOfSlips(slips)};
        return 0;
    }

    private static List<String> texts(Object list) {
        List<String> copy = new ArrayList<>();
        ((List<?>) list).forEach(text -> copy.add((String) text));
        return copy;
    }

    int back(int k) {
        if (k < 0 || k > 2) {
            return -2;
        }
        if (images[k] == null) {
            return -6;
        }
        told = (Told) images[k][0];
        lines = List.of(texts(images[k][1]), texts(images[k][2]));
        slips = copyOfSlips((List<?>) images[k][3]);
        return 0;
    }

    int row(int slot, int width, int n) {
        if (slot < 0 || slot > 3 || width < 0 || width > 3 || n > 60) {
            return -2;
        }
        if (n < 0) {
            return -3;
        }
        rows[slot] = new long[n];
        widths[slot] = width;
        return 0;
    }

    int write(int slot, int i, long v) {
        if (slot < 0 || slot > 3) {
            return -2;
        }
        if (rows[slot] == null) {
            return -6;
        }
        if (i < 0 || i >= rows[slot].length) {
            return -7;
        }
        rows[slot][i] = v;
        return 0;
    }

    int paste(int slot, int i, int to, int k, int n) {
        if (slot < 0 || slot > 3 || to < 0 || to > 3) {
            return -2;
        }
        if (rows[slot] == null || rows[to] == null) {
            return -6;
        }
        if (widths[slot] != widths[to]) {
            return -8;
        }
        if (i < 0 || k < 0 || n < 0 || (long) i + n > rows[slot].length || (long) k + n > rows[to].length) {
            return -7;
        }
        long[] old = rows[slot].clone();
        for (int j = 0; j < n; j++) {
            rows[to][k + j] = old[i + j];
        }
        return 0;
    }
}
