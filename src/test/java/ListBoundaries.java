/** Boundary cases of LISTS, SHARES and LIKENESS (TERMS III to V, promises 16 to 22), sentence by sentence. */
final class ListBoundaries {
    private static final String[] OTHERS = {"", "-", "a a a", "a-", "a a a a a", "a"};

    private final Sentences s;

    ListBoundaries(Sentences s) {
        this.s = s;
    }

    void all() {
        gaps();
        packedByK();
        placesOfForms();
        noSuchPlace();
        bitsOfK();
        leastOfAllK();
        packOfNone();
        bitsOfAllLists();
        fairestShares();
        sharesOfFewLines();
        fewestLinesFirst();
        wordsOfTheGreatest();
        sharesOfNone();
        firstLineOfShare();
        sharesThatTold();
        shareOfNone();
        mostPairs();
        toldFromTheFront();
        howManyMatched();
        placeMatched();
        noneMatched();
    }

    // TERMS, III; promises 16 to 18.

    private void gaps() {
        s.of("III", "LIST of a FORM in an EDITION: its PLACES, rising; GAPS: the first PLACE and 1, then each less the one ahead.");
        // By k 0 a GAP takes as many bits as it is great.
        for (int p : new int[] {0, 1, 29, 30, 299}) {
            WordPlaces x = Sentences.ofLetters(Due.times("b", p) + "a");
            s.is("a at " + p, x.pack(0, 0, 0), p + 1);
        }
        WordPlaces x = Sentences.ofLetters("aa" + Due.times("b", 28) + "abba");
        s.is("a at 0, 1, 30, 33", x.pack(0, 0, 0), 1 + 1 + 29 + 3);
        s.is("b", x.pack(0, 1, 0), 3 + 27 + 2 + 1);
        int[] due = {0, 1, 30, 33};
        for (int i = 0; i < 4; i++) {
            s.is("stands(0, 0, " + i + ")", x.stands(0, 0, i), due[i]);
        }
    }

    private void packedByK() {
        s.of("III", "Packed by k: of each GAP less 1: that by 2 to the k, rounded down, and 1 and k bits.");
        int[] places = {0, 1, 2, 3, 4, 7, 8, 15, 16, 127, 128, 255, 256, 299};
        for (int p : places) {
            WordPlaces x = Sentences.ofLetters(Due.times("b", p) + "a");
            int power = 1;
            for (int k = 0; k <= 10; k++) {
                s.is("a at " + p + " by " + k, x.pack(0, 0, k), p / power + 1 + k);
                power *= 2;
            }
        }
        WordPlaces x = Sentences.ofLetters(Due.times("a", 300));
        s.is("300 GAPS of 1 by 0", x.pack(0, 0, 0), 300);
        s.is("300 GAPS of 1 by 10", x.pack(0, 0, 10), 3300);
        x = Sentences.ofLetters("abbbabba");
        s.is("0, 3, 2 by 1: each is rounded down", x.pack(0, 0, 1), 0 + 1 + 1 + 2 * 3);
    }

    private void placesOfForms() {
        s.of("Promise 16", "PLACE i of FORM f in an EDITION.");
        WordPlaces x = Due.book("b a b");
        Due.line(x, 1, "c b");
        s.is("stands(0, 1, 0)", x.stands(0, 1, 0), 0);
        s.is("stands(0, 1, 1)", x.stands(0, 1, 1), 2);
        s.is("stands(1, 1, 0)", x.stands(1, 1, 0), 1);
        s.is("stands(0, 0, 0)", x.stands(0, 0, 0), 1);
        s.is("stands(1, 2, 0)", x.stands(1, 2, 0), 0);
        Due.rules(x, "stop b;");
        s.is("a STOP stands, too", x.stands(0, 1, 1), 2);
        x = Sentences.ofLetters(Due.times("a", 300));
        s.is("stands(0, 0, 299)", x.stands(0, 0, 299), 299);
        x = Sentences.full();
        s.is("stands(1, 599, 0)", x.stands(1, 599, 0), 299);
        s.is("stands(0, 0, 0)", x.stands(0, 0, 0), 0);
    }

    private void noSuchPlace() {
        s.of("Promise 16", "NONE: there is none such.");
        WordPlaces x = Due.book("b a b");
        Due.line(x, 1, "c b");
        for (int i : Sentences.beyond(2)) {
            s.is("stands(0, 1, " + i + ")", x.stands(0, 1, i), -1);
        }
        for (int f : Sentences.beyond(3)) {
            s.is("stands(0, " + f + ", 0)", x.stands(0, f, 0), -1);
        }
        for (int e : Sentences.beyond(2)) {
            s.is("stands(" + e + ", 1, 0)", x.stands(e, 1, 0), -1);
        }
        s.is("a FORM that the EDITION has not", x.stands(1, 0, 0), -1);
        s.is("nor this one", x.stands(0, 2, 0), -1);
        s.is("one that EDITION 1 has once", x.stands(1, 1, 1), -1);
        x = Sentences.ofLetters(Due.times("a", 300));
        s.is("stands(0, 0, 300)", x.stands(0, 0, 300), -1);
        x = Sentences.full();
        s.is("stands(1, 600, 0)", x.stands(1, 600, 0), -1);
        s.is("stands(0, 599, 0)", x.stands(0, 599, 0), -1);
    }

    private void bitsOfK() {
        s.of("Promise 17", "Bits in which its LIST is packed by k (III, 0 .. 10);");
        WordPlaces x = Due.book("b b a");
        Due.line(x, 1, "a");
        s.is("pack(0, 0, 0)", x.pack(0, 0, 0), 3);
        s.is("pack(0, 0, 1)", x.pack(0, 0, 1), 3);
        s.is("pack(0, 0, 10)", x.pack(0, 0, 10), 11);
        s.is("pack(1, 0, 0)", x.pack(1, 0, 0), 1);
        s.is("pack(0, 1, 10)", x.pack(0, 1, 10), 22);
        for (int k = 0; k <= 10; k++) {
            s.is("no PLACES by " + k, x.pack(1, 1, k), 0);
        }
    }

    private void leastOfAllK() {
        s.of("Promise 17", "what NONE: the least of all k.");
        for (int p : new int[] {0, 1, 2, 3, 5, 6, 7, 13, 14, 60, 127, 128, 255, 256, 299}) {
            WordPlaces x = Sentences.ofLetters(Due.times("b", p) + "a");
            int least = 1000;
            for (int k = 0; k <= 10; k++) {
                least = Math.min(least, (p >> k) + 1 + k);
            }
            s.is("a at " + p, x.pack(0, 0, -1), least);
        }
        s.is("300 by 0", Sentences.ofLetters(Due.times("a", 300)).pack(0, 0, -1), 300);
        s.is("two GAPS of 150 by 6 or 7", Sentences.ofLetters((Due.times("b", 149) + "a").repeat(2)).pack(0, 0, -1), 18);
        for (int k = 0; k <= 6; k++) {
            // GAPS of 2 to the k, and of twice that: the least is by this k alone.
            WordPlaces y = Sentences.ofLetters(Due.times("b", (1 << k) - 1) + "a" + Due.times("b", (2 << k) - 1) + "a");
            s.is("two by " + k, y.pack(0, 0, -1), 2 * k + 3);
            s.is("by more", y.pack(0, 0, k + 1), 2 * k + 4);
        }
        WordPlaces x = Due.book("a");
        s.is("no PLACES", x.pack(1, 0, -1), 0);
    }

    private void packOfNone() {
        s.of("Promise 17", "-2: there are none such, another k.");
        WordPlaces x = Due.book("a b");
        for (int k : Sentences.beyond(11)) {
            s.is("pack(0, 0, " + k + ")", x.pack(0, 0, k), k == -1 ? 1 : -2);
        }
        for (int f : Sentences.beyond(2)) {
            s.is("pack(0, " + f + ", 0)", x.pack(0, f, 0), -2);
            s.is("pack(0, " + f + ", NONE)", x.pack(0, f, -1), -2);
        }
        for (int e : Sentences.beyond(2)) {
            s.is("pack(" + e + ", 0, 0)", x.pack(e, 0, 0), -2);
            s.is("pack(" + e + ", 0, NONE)", x.pack(e, 0, -1), -2);
        }
        s.is("no FORM 600", Sentences.full().pack(0, 600, 0), -2);
    }

    private void bitsOfAllLists() {
        s.of("Promise 18", "Bits of all LISTS of an EDITION, each by its best k.");
        WordPlaces x = Due.book("b b b a a");
        Due.line(x, 1, "c a");
        s.is("room(0)", x.room(0), x.pack(0, 0, -1) + x.pack(0, 1, -1));
        s.is("a by 1, b by 0", x.room(0), 5 + 3);
        s.is("room(1)", x.room(1), 1 + 2);
        s.is("of none", new WordPlaces().room(0), 0);
        s.is("of LINES without WORDS", Due.book("", "-").room(0), 0);
        s.is("of 300", Sentences.ofLetters(Due.times("a", 300)).room(0), 300);
        int sum = 0;
        for (int p = 0; p < 300; p++) {
            int least = 1000;
            for (int k = 0; k <= 10; k++) {
                least = Math.min(least, (p >> k) + 1 + k);
            }
            sum += least;
        }
        x = Sentences.full();
        s.is("of 300 FORMS", x.room(0), sum);
        s.is("of the other 300", x.room(1), sum);
        s.of("Promise 18", "-2: there is none such.");
        for (int e : Sentences.beyond(2)) {
            s.is("room(" + e + ")", x.room(e), -2);
        }
    }

    // TERMS, IV; promises 19 and 20.

    private static String starts(WordPlaces x) {
        StringBuilder text = new StringBuilder();
        for (int i = 0; i < 9 && x.share(i) >= 0; i++) {
            text.append(i > 0 ? " " : "").append(x.share(i));
        }
        return text.toString();
    }

    private void sharesAre(WordPlaces x, int n, int most, String want) {
        s.is("shares(0, " + n + ")", x.shares(0, n), most);
        s.are("starts of " + n, starts(x), want);
    }

    /** All ways to part the LINES are tried, the fewest in the first SHARE ahead. */
    private static void tryAll(int[] sizes, int hand, int[] ends, int[] best) {
        int hands = ends.length;
        int from = hand == 0 ? 0 : ends[hand - 1];
        if (hand == hands - 1) {
            ends[hand] = sizes.length;
            int most = 0;
            for (int h = 0; h < hands; h++) {
                int sum = 0;
                for (int i = h == 0 ? 0 : ends[h - 1]; i < ends[h]; i++) {
                    sum += sizes[i];
                }
                most = Math.max(most, sum);
            }
            if (most < best[0]) {
                best[0] = most;
                System.arraycopy(ends, 0, best, 1, hands);
            }
            return;
        }
        for (int end = from; end <= sizes.length; end++) {
            ends[hand] = end;
            tryAll(sizes, hand + 1, ends, best);
        }
    }

    private void fairestShares() {
        s.of("IV", "SHARES: LINES in runs one behind the other, one for each hand (some may have none), so that the greatest number"
            + " of WORDS (those that begin in its LINES) is the least;");
        for (int form = 0; form < 240; form++) {
            WordPlaces x = new WordPlaces();
            int lines = form % 7;
            int code = form * 2654435 + 12345;
            for (int i = 0; i < lines; i++) {
                Due.line(x, 0, OTHERS[(code >>> 3 * i & 7) % OTHERS.length]);
            }
            int[] sizes = new int[lines];
            for (int p = 0; p < x.edition(0, 1); p++) {
                sizes[x.word(0, p, 1)]++;
            }
            int hands = 1 + form % 5;
            int[] best = new int[hands + 1];
            best[0] = 1000;
            tryAll(sizes, 0, new int[hands], best);
            StringBuilder want = new StringBuilder("0");
            for (int h = 1; h < hands; h++) {
                want.append(' ').append(best[h]);
            }
            sharesAre(x, hands, best[0], want.toString());
        }
    }

    private void sharesOfFewLines() {
        s.of("IV", "one for each hand (some may have none)");
        WordPlaces x = Due.book("a a");
        for (int n = 1; n <= 8; n++) {
            sharesAre(x, n, 2, "0 0 0 0 0 0 0 0".substring(0, 2 * n - 1));
        }
        x = Due.book("a", "a");
        sharesAre(x, 8, 1, "0 0 0 0 0 0 0 1");
        sharesAre(x, 2, 1, "0 1");
        sharesAre(x, 1, 2, "0");
        x = new WordPlaces();
        for (int i = 0; i < 8; i++) {
            Due.line(x, 0, "a");
        }
        sharesAre(x, 8, 1, "0 1 2 3 4 5 6 7");
        sharesAre(x, 7, 2, "0 0 0 0 2 4 6");
    }

    private void fewestLinesFirst() {
        s.of("IV", "of several the one whose first SHARE has the fewest LINES, then the second, ..");
        sharesAre(Due.book("a", "a", "a"), 2, 2, "0 1");
        sharesAre(Due.book("a", "", "a"), 2, 1, "0 1");
        sharesAre(Due.book("", "a", "", "a", ""), 2, 1, "0 2");
        sharesAre(Due.book("a a", "a", "a", "a a"), 3, 2, "0 1 3");
        sharesAre(Due.book("a", "a", "a", "a", "a"), 3, 2, "0 1 3");
        sharesAre(Due.book("a a a", "a", "a", "a"), 3, 3, "0 0 1");
        sharesAre(Due.book("", "", ""), 3, 0, "0 0 0");
        WordPlaces x = new WordPlaces();
        for (int i = 0; i < 40; i++) {
            Due.line(x, 0, "a");
        }
        sharesAre(x, 8, 5, "0 5 10 15 20 25 30 35");
        sharesAre(x, 7, 6, "0 4 10 16 22 28 34");
    }

    private void wordsOfTheGreatest() {
        s.of("Promise 19", "SHARES (IV) of an EDITION for n hands (1 .. 8): the WORDS of the greatest.");
        WordPlaces x = Due.book("a b-", "c", "d");
        Due.line(x, 1, "a a a");
        s.is("shares(0, 1)", x.shares(0, 1), 3);
        s.is("shares(0, 2)", x.shares(0, 2), 2);
        s.is("shares(0, 8)", x.shares(0, 8), 2);
        s.is("shares(1, 1)", x.shares(1, 1), 3);
        s.is("shares(1, 8)", x.shares(1, 8), 3);
        x = Sentences.ofLetters(Due.times("a", 300));
        s.is("300 for one", x.shares(0, 1), 300);
        s.is("299 and one", Sentences.ofLetters(Due.times("a", 299)).shares(0, 1), 299);
        s.is("300 for eight", x.shares(0, 8), 60);
        s.is("no WORDS", Due.book("").shares(0, 1), 0);
        s.is("no LINES", new WordPlaces().shares(1, 8), 0);
    }

    private void sharesOfNone() {
        s.of("Promise 19", "-2: there is none such, another n.");
        WordPlaces x = Due.book("a");
        for (int n : Sentences.beyond(9)) {
            s.is("shares(0, " + n + ")", x.shares(0, n), -2);
        }
        s.is("shares(0, 0)", x.shares(0, 0), -2);
        for (int e : Sentences.beyond(2)) {
            s.is("shares(" + e + ", 1)", x.shares(e, 1), -2);
        }
    }

    private void firstLineOfShare() {
        s.of("Promise 20", "The first LINE of SHARE i");
        WordPlaces x = Due.book("a", "b b", "c");
        sharesAre(x, 3, 2, "0 1 2");
        s.of("Promise 20", "(of one that has none that of the next one; behind all the number of LINES)");
        sharesAre(x, 5, 2, "0 0 0 1 2");
        sharesAre(Due.book("", "a"), 2, 1, "0 0");
        sharesAre(new WordPlaces(), 1, 0, "0");
        sharesAre(new WordPlaces(), 8, 0, "0 0 0 0 0 0 0 0");
    }

    private void sharesThatTold() {
        s.of("Promise 20", "of the latest shares() that told a number");
        WordPlaces x = Due.book("a", "b", "c c");
        Due.line(x, 1, "a");
        sharesAre(x, 3, 2, "0 0 2");
        for (int n : new int[] {-1, 0, 9}) {
            x.shares(0, n);
            s.are("behind shares(0, " + n + ")", starts(x), "0 0 2");
        }
        x.shares(2, 1);
        s.are("behind shares(2, 1)", starts(x), "0 0 2");
        Due.put(x, "c c c").right(0, 0);
        s.are("behind right()", starts(x), "0 0 2");
        x.shares(1, 1);
        s.are("those of EDITION 1", starts(x), "0");
        s.is("share(1)", x.share(1), -1);
    }

    private void shareOfNone() {
        s.of("Promise 20", "NONE.");
        WordPlaces x = Due.book("a", "b");
        for (int i : Sentences.beyond(0)) {
            s.is("share(" + i + ") ahead of any", x.share(i), -1);
        }
        x.shares(2, 8);
        s.is("share(0) behind one refused", x.share(0), -1);
        for (int n : new int[] {8, 2, 1}) {
            x.shares(0, n);
            for (int i : Sentences.beyond(n)) {
                s.is("share(" + i + ") of " + n, x.share(i), -1);
            }
        }
    }

    // TERMS, V; promises 21 and 22.

    private void likenessIs(String first, String second, int pairs, String want) {
        WordPlaces x = Sentences.ofLetters(first);
        Sentences.addLetters(x, 1, second);
        likenessIs(x, first + "/" + second, pairs, want);
    }

    private void likenessIs(WordPlaces x, String call, int pairs, String want) {
        s.is("alike of " + call, x.alike(), pairs);
        StringBuilder text = new StringBuilder();
        int words = x.edition(0, 1);
        for (int p = 0; p < words; p++) {
            text.append(p > 0 ? " " : "").append(x.matched(p));
        }
        s.are("matched of " + call, text.toString(), want);
    }

    private void mostPairs() {
        s.of("V", "LIKENESS: the most pairs of PLACES, both rising, of like FORMS.");
        likenessIs("abc", "abc", 3, "0 1 2");
        likenessIs("abc", "cba", 1, "-1 -1 0");
        likenessIs("abc", "xyz", 0, "-1 -1 -1");
        likenessIs("ab", "xaxbx", 2, "1 3");
        likenessIs("xaxbx", "ab", 2, "-1 0 -1 1 -1");
        likenessIs("abcabba", "cbabac", 4, "-1 -1 0 -1 1 3 4");
        WordPlaces x = Due.book("v u");
        Due.line(x, 1, "u v");
        Due.rules(x, "fold v to u;stop u;");
        likenessIs(x, "v u by a fold", 2, "0 1");
    }

    private void toldFromTheFront() {
        s.of("V", "Told from the front: a pair is taken if like and the most is kept; else a PLACE of EDITION 0 is left if the most"
            + " is kept without it, else one of EDITION 1.");
        likenessIs("aa", "a", 1, "0 -1");
        likenessIs("a", "aa", 1, "0");
        likenessIs("ab", "ba", 1, "-1 0");
        likenessIs("ba", "ab", 1, "-1 0");
        likenessIs("abc", "bca", 2, "-1 0 1");
        likenessIs("abb", "bba", 2, "-1 0 1");
        likenessIs("acb", "bca", 1, "-1 -1 0");
        likenessIs("aab", "baa", 2, "1 2 -1");
        likenessIs("aba", "bab", 2, "-1 0 1");
        likenessIs("abab", "baba", 3, "-1 0 1 2");
        likenessIs("cab", "abc", 2, "-1 0 1");
        likenessIs("abcd", "badc", 2, "-1 0 -1 2");
        for (int letters = 2; letters <= 26; letters += 8) {
            StringBuilder first = new StringBuilder();
            StringBuilder second = new StringBuilder();
            int state = letters;
            for (int i = 0; i < 300; i++) {
                state = state * 1103515245 + 12345;
                first.append((char) ('a' + (state >>> 16) % letters));
                state = state * 1103515245 + 12345;
                second.append((char) ('a' + (state >>> 16) % letters));
            }
            likenessOfTable(first.toString(), second.toString());
        }
    }

    /** The most pairs that are left behind each two PLACES, and what is told from the front by them. */
    private void likenessOfTable(String first, String second) {
        int[][] most = new int[301][301];
        for (int p = 299; p >= 0; p--) {
            for (int q = 299; q >= 0; q--) {
                boolean like = first.charAt(p) == second.charAt(q);
                most[p][q] = Math.max(like ? 1 + most[p + 1][q + 1] : 0, Math.max(most[p + 1][q], most[p][q + 1]));
            }
        }
        StringBuilder want = new StringBuilder();
        int q = 0;
        for (int p = 0; p < 300; p++) {
            while (q < 300 && first.charAt(p) != second.charAt(q) && most[p + 1][q] < most[p][q]) {
                q++;
            }
            boolean taken = q < 300 && first.charAt(p) == second.charAt(q);
            want.append(p > 0 ? " " : "").append(taken ? q : -1);
            q += taken ? 1 : 0;
        }
        likenessIs(first, second, most[0][0], want.toString());
    }

    private void howManyMatched() {
        s.of("Promise 21", "LIKENESS (V) of the EDITIONS: how many WORDS are matched.");
        s.is("of none", new WordPlaces().alike(), 0);
        s.is("EDITION 1 is empty", Due.book("a").alike(), 0);
        WordPlaces x = new WordPlaces();
        Due.line(x, 1, "a");
        s.is("EDITION 0 is empty", x.alike(), 0);
        Due.line(x, 0, "a");
        s.is("one and one", x.alike(), 1);
        x = Sentences.full();
        s.is("300 and 300, all unlike", x.alike(), 0);
        x = Sentences.ofLetters(Due.times("ab", 150));
        Sentences.addLetters(x, 1, Due.times("ab", 150));
        s.is("300 and 300, all like", x.alike(), 300);
        Due.put(x, Due.times("c ", 30)).right(1, 0);
        s.is("270", x.alike(), 270);
        x = Due.book("a b c");
        Due.line(x, 1, "a b c");
        s.is("three", x.alike(), 3);
        Due.put(x, "a b").right(1, 0);
        s.is("two now", x.alike(), 2);
        Due.put(x, "").right(1, 0);
        s.is("none now", x.alike(), 0);
    }

    private void placeMatched() {
        s.of("Promise 22", "The PLACE in EDITION 1 that is matched with one in EDITION 0 now;");
        WordPlaces x = Due.book("a b");
        Due.line(x, 1, "c b");
        s.is("matched(1)", x.matched(1), 1);
        Due.put(x, "b").right(1, 0);
        s.is("behind right()", x.matched(1), 0);
        Due.rules(x, "fold a to b;");
        s.is("behind rules()", x.matched(1), -1);
        s.is("the first one now", x.matched(0), 0);
        x.keep(0);
        x.rules();
        s.is("without RULES", x.matched(0), -1);
        x.back(0);
        s.is("behind back()", x.matched(0), 0);
        Due.line(x, 1, "a");
        s.is("behind line()", x.matched(1), 1);
        x = Due.book("a b");
        Due.line(x, 1, "b a");
        likenessIs(x, "a b/b a", 1, "-1 0");
        Due.put(x, "x a b").right(1, 0);
        likenessIs(x, "a b/x a b", 2, "1 2");
        Due.put(x, "b a").right(1, 0);
        likenessIs(x, "a b/b a again", 1, "-1 0");
        x = Sentences.ofLetters("a" + Due.times("c", 299));
        Sentences.addLetters(x, 1, Due.times("b", 299) + "a");
        s.is("the first of 300", x.matched(0), 299);
        x = Sentences.ofLetters(Due.times("b", 299) + "a");
        Sentences.addLetters(x, 1, "a");
        s.is("the last of 300", x.matched(299), 0);
    }

    private void noneMatched() {
        s.of("Promise 22", "NONE: none, there is no such PLACE.");
        s.is("of none", new WordPlaces().matched(0), -1);
        WordPlaces x = Due.book("a b");
        Due.line(x, 1, "b a c c");
        s.is("one that is left", x.matched(0), -1);
        for (int p : Sentences.beyond(2)) {
            s.is("matched(" + p + ")", x.matched(p), -1);
        }
        Due.put(x, "").right(0, 0);
        s.is("there is none now", x.matched(1), -1);
        x = Sentences.ofLetters(Due.times("a", 300));
        Sentences.addLetters(x, 1, Due.times("a", 300));
        for (int p : Sentences.beyond(300)) {
            s.is("of 300, matched(" + p + ")", x.matched(p), -1);
        }
    }
}
