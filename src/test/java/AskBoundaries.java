/** Boundary cases of ASKS (TERMS II and their FAULTS, promises 14 and 15), sentence by sentence. */
final class AskBoundaries {
    private static final int NOTHING = -2000000000;
    private static final String[] NO_UNITS = {"near", "before", "far", "and", "but", "or", "5", "51", ")", ";", "!", "A"};
    private static final String[] NO_OPS = {"a", "root", "nearx", "nea", "befor", "an", "o", "5", "51", "(", "\"", ")", ";", "!"};

    private final Sentences s;

    AskBoundaries(Sentences s) {
        this.s = s;
    }

    void all() {
        fromTheLeft();
        kindsOfUnits();
        noWords();
        words();
        lastPlaces();
        roots();
        behindOneAnother();
        near();
        before();
        far();
        lines();
        rising();
        numbersBeyond();
        oneUnitTooMany();
        sevenDeep();
        howManyAnswer();
        noSuchEdition();
        refusedAsk();
        answersTold();
        asItWasThen();
        answerOfNothing();
    }

    private void asked(WordPlaces x, String text, String want) {
        s.is("ask " + text, Due.ask(x, 0, text), want.isEmpty() ? 0 : want.split(" ").length);
        s.are("answer to " + text, Due.answered(x), want);
        s.is("fault(0) of " + text, x.fault(0), 0);
    }

    private void refused(String text, int fault, int place) {
        WordPlaces x = Due.book("a b");
        s.is("ask " + text, Due.ask(x, 0, text), -4);
        s.is("FAULT of " + text, x.fault(0), fault);
        s.is("place of " + text, x.fault(1), place);
    }

    /** Each TOKEN in place of one that is due, and the end in place of each. */
    private void standing(String[] good, String[][] wrong) {
        StringBuilder ahead = new StringBuilder();
        for (int i = 0; i < good.length; i++) {
            for (String other : wrong[i]) {
                refused(ahead + other + " " + String.join(" ", good), 1, ahead.length());
            }
            if (wrong[i].length > 0 && wrong[i] != NO_OPS) {
                refused(ahead.toString(), 1, ahead.length());
            }
            ahead.append(good[i]).append(i % 2 == 0 ? " " : " \n ");
        }
        s.is("ask " + ahead, Due.ask(Due.book("a b"), 0, ahead.toString()), 1);
    }

    private void fromTheLeft() {
        s.of("II", "ASK: UNIT {OP UNIT}, worked from the left.");
        WordPlaces x = Due.book("a b", "c d", "a d");
        asked(x, "a", "0 4");
        asked(x, "c or a and b", "0");
        asked(x, "c or (a and b)", "0 2");
        asked(x, "a or c but b", "2 4");
        asked(x, "a or (c but b)", "0 2 4");
        asked(x, "d near 1 c or a and d", "3 4");
        StringBuilder thirty = new StringBuilder("a");
        for (int i = 1; i < 30; i++) {
            thirty.append(i % 2 == 1 ? " but b" : " or b");
        }
        asked(x, thirty.toString(), "4");
    }

    private void kindsOfUnits() {
        s.of("II", "UNIT: WORD | root WORD | \" WORD {WORD} \" | ( ASK ).");
        String[] noNumbers = {"a", "near", "root", "(", ")", "\"", ";", "!"};
        String[] noFreeWords = {"root", "near", "before", "far", "and", "but", "or", "5", "(", ")", "\"", ";", "!"};
        String[] noAnyWords = {"5", "51", "(", ")", "\"", ";", "!"};
        String[] noEnds = {"5", "51", "(", ")", ";", "!"};
        String[] open = {"a", "root", "5", "(", "\"", ";", "!"};
        standing(new String[] {"a", "near", "50", "b"}, new String[][] {NO_UNITS, NO_OPS, noNumbers, NO_UNITS});
        standing(new String[] {"a", "and", "b"}, new String[][] {NO_UNITS, NO_OPS, NO_UNITS});
        standing(new String[] {"(", "a", ")"}, new String[][] {{}, NO_UNITS, open});
        standing(new String[] {"\"", "a", "b", "\""}, new String[][] {{}, noAnyWords, noEnds, noEnds});
        standing(new String[] {"a", "or", "root", "q"}, new String[][] {{}, NO_OPS, NO_UNITS, noFreeWords});
        refused("", 1, 0);
        refused("()", 1, 1);
        refused("\"\"", 1, 1);
        refused("(a)b", 1, 3);
        refused("\"a\"\"b\"", 1, 3);
    }

    private void noWords() {
        s.of("II", "OP: near N | before N | far N | and | but | or; these, and root, are no WORDS but between \" \".");
        for (String op : new String[] {"near", "before", "far", "and", "but", "or", "root"}) {
            WordPlaces x = Due.book(op + " a " + op, "b " + op + "s");
            refused(op.equals("root") ? "root root" : op, 1, op.equals("root") ? 5 : 0);
            refused("root " + op, 1, 5);
            refused("a or " + (op.equals("root") ? "root root" : op), 1, op.equals("root") ? 10 : 5);
            asked(x, "\"" + op + "\"", "0 2");
            asked(x, "\"a " + op + "\"", "1");
            asked(x, "\"" + op + " " + op + "\"", "");
            asked(x, op + "s", "4");
        }
    }

    private void words() {
        s.of("II", "WORD: the PLACES of that FORM; none if it is a STOP.");
        WordPlaces x = Due.book("a b a", "c a-", "b");
        asked(x, "a", "0 2");
        asked(x, "ab", "4");
        asked(x, "b", "1");
        asked(x, "zz", "");
        s.is("EDITION 1 has none", Due.ask(x, 1, "a"), 0);
        Due.rules(x, "stop a;stop c;fold b to c;");
        asked(x, "a", "");
        asked(x, "c", "");
        asked(x, "b", "");
        asked(x, "ac", "4");
        asked(Due.book("", ""), "a", "");
        asked(new WordPlaces(), "a", "");
    }

    /** EDITIONS have 300 WORDS at most; each OP and UNIT at the last two PLACES. */
    private void lastPlaces() {
        s.of("II", "UNIT: WORD | root WORD | \" WORD {WORD} \" | ( ASK ). OP: near N | before N | far N | and | but | or;");
        String[][] due = {{"b", "299"}, {"root a", "298 299"}, {"\"b\"", "299"}, {"\"a b\"", "298"}, {"\"b a\"", ""}, {"\"d\"", ""},
            {"(b)", "299"}, {"(d)", ""}, {"((a or b))", "298 299"}, {"b near 1 a", "299"}, {"a near 1 b", "298"}, {"b near 50 b", ""},
            {"a before 1 b", "298"}, {"b before 50 a", ""}, {"b far 1 a", ""}, {"b far 1 b", "299"}, {"b and a", "299"},
            {"a and b", "298"}, {"b but a", ""}, {"a but b", ""}, {"b but d", "299"}, {"b and d", ""}, {"d or b", "299"},
            {"b or d", "299"}, {"a or b", "298 299"}, {"d and b", ""}};
        WordPlaces x = null;
        for (int i = 0; i < due.length; i++) {
            if (i % 10 == 0) {
                // An object is used for 512 calls.
                x = Sentences.ofLetters(Due.times("c", 298) + "ab");
                Due.rules(x, "root a of b;");
            }
            asked(x, due[i][0], due[i][1]);
        }
        s.is("all but those of the last LINE", Due.ask(x, 0, "c but b"), 270);
    }

    private void roots() {
        s.of("II", "root: those of all FORMS of the first ROOT that is told so (its own FORM, too, and those behind of), STOPS as"
            + " well; none without such a ROOT.");
        WordPlaces x = Due.book("rex regis regem rege regi", "lex legis rex");
        Due.rules(x, "root rex of regis regem rege regi;root lex of legis;root rex of lex;stop rex;stop regis;root mus of muris;");
        asked(x, "root rex", "0 1 2 3 4 7");
        asked(x, "root lex", "5 6");
        asked(x, "root mus", "");
        asked(x, "root regis", "");
        asked(x, "root legis", "");
        asked(x, "root zz", "");
        asked(x, "rex", "");
        asked(x, "\"lex legis\" or root rex", "0 1 2 3 4 5 7");
        Due.rules(x, "root lex of lex lex legis legis;");
        asked(x, "root lex", "5 6");
        Due.rules(x, "root rex of regis;root lex of legis;");
        asked(x, "root lex", "5 6");
        asked(x, "root rex", "0 1 7");
        Due.rules(x, "root rex of lex;");
        asked(x, "root lex", "");
        asked(x, "root rex", "0 5 7");
        x.rules();
        asked(x, "root rex", "");
        StringBuilder many = new StringBuilder();
        for (int i = 0; i < 19; i++) {
            many.append("root q of a;");
        }
        Due.rules(x, many + "root rex of lex;");
        asked(x, "root rex", "0 5 7");
    }

    private void behindOneAnother() {
        s.of("II", "\" \": PLACES from which on the WORDS stand one behind the other, STOPS as any.");
        WordPlaces x = Due.book("a b a b-", "c a b", "a a a");
        asked(x, "\"a b\"", "0 4");
        asked(x, "\"b a\"", "1 5");
        asked(x, "\"a bc a\"", "2");
        asked(x, "\"a a\"", "6 7");
        asked(x, "\"b a a a\"", "5");
        asked(x, "\"b a a a a\"", "");
        asked(x, "\"a a a\"", "6");
        asked(x, "\"a\"", "0 2 4 6 7 8");
        asked(x, "\"a b a bc a b a a a\"", "0");
        asked(x, "\"a b a bc a b a a a a\"", "");
        asked(x, "\"zz\"", "");
        asked(x, "\"a zz\"", "");
        Due.rules(x, "stop a;stop bc;");
        asked(x, "\"a b\"", "0 4");
        asked(x, "\"bc\"", "3");
        asked(x, "\"a b a bc\"", "0");
        WordPlaces y = Sentences.ofLetters(Due.times("a", 199));
        asked(y, "\"" + Due.times("a ", 199) + "\"", "0");
        asked(y, "\"" + Due.times("a ", 198) + "\"", "0 1");
        y = Sentences.ofLetters(Due.times("a", 198));
        asked(y, "\"" + Due.times("a ", 199) + "\"", "");
        y = Due.book("a b", "a b c");
        Due.put(y, "a").right(0, 1);
        asked(y, "\"a b\"", "0");
        asked(y, "\"b a\"", "1");
        asked(y, "\"a b a c\"", "");
        Due.put(y, "").right(0, 1);
        asked(y, "\"b a\"", "");
    }

    private void near() {
        s.of("II", "A near N B: the PLACES of A that have one of B N WORDS away at most, but none itself;");
        for (int n : new int[] {1, 2, 3, 29, 30, 31, 49, 50}) {
            for (int away = Math.max(1, n - 1); away <= n + 1; away++) {
                String between = Due.times("c", away - 1);
                asked(Sentences.ofLetters("a" + between + "b"), "a near " + n + " b", away <= n ? "0" : "");
                asked(Sentences.ofLetters("b" + between + "a"), "a near " + n + " b", away <= n ? "" + away : "");
                asked(Sentences.ofLetters("a" + between + "a"), "a near " + n + " a", away <= n ? "0 " + away : "");
            }
        }
        asked(Due.book("a"), "a near 50 a", "");
        asked(Due.book("b a b"), "a near 1 b", "1");
        asked(Due.book("a", "", "b"), "a near 1 b", "0");
        asked(Due.book("a b"), "a near 50 zz", "");
        asked(Due.book("a b"), "zz near 50 a", "");
        asked(Due.book("a b c"), "(a or b) near 1 (b or c)", "0 1");
        asked(Sentences.ofLetters(Due.times("a", 300)), "a near 1 a but zz near 50 a near 1 a", allUpTo(300));
        WordPlaces x = Due.book("a b c d e f");
        asked(x, "(a or c or e) near 1 d", "2 4");
        asked(x, "(a or c or e) near 1 f", "4");
        asked(x, "(a or b or e) near 1 c near 1 a", "1");
        asked(x, "(a or d) near 1 e or (c near 1 a) or (b near 2 d)", "1 3");
    }

    private static String allUpTo(int n) {
        StringBuilder text = new StringBuilder();
        for (int i = 0; i < n; i++) {
            text.append(i > 0 ? " " : "").append(i);
        }
        return text.toString();
    }

    private void before() {
        s.of("II", "before: one of B 1 .. N WORDS behind;");
        for (int n : new int[] {1, 2, 3, 49, 50}) {
            for (int away = Math.max(1, n - 1); away <= n + 1; away++) {
                String between = Due.times("c", away - 1);
                asked(Sentences.ofLetters("a" + between + "b"), "a before " + n + " b", away <= n ? "0" : "");
                asked(Sentences.ofLetters("b" + between + "a"), "a before " + n + " b", "");
                asked(Sentences.ofLetters("a" + between + "a"), "a before " + n + " a", away <= n ? "0" : "");
            }
        }
        asked(Due.book("a"), "a before 50 a", "");
        asked(Due.book("a", "", "b"), "a before 1 b", "0");
        asked(Due.book("b a"), "a before 1 b", "");
    }

    private void far() {
        s.of("II", "far: those that are not near.");
        for (int n : new int[] {1, 2, 3, 49, 50}) {
            for (int away = Math.max(1, n - 1); away <= n + 1; away++) {
                String between = Due.times("c", away - 1);
                asked(Sentences.ofLetters("a" + between + "b"), "a far " + n + " b", away <= n ? "" : "0");
                asked(Sentences.ofLetters("b" + between + "a"), "a far " + n + " b", away <= n ? "" : "" + away);
                asked(Sentences.ofLetters("a" + between + "a"), "a far " + n + " a", away <= n ? "" : "0 " + away);
            }
        }
        asked(Due.book("a"), "a far 50 a", "0");
        asked(Due.book("a b"), "a far 50 zz", "0");
        asked(Due.book("a b"), "zz far 50 a", "");
    }

    private void lines() {
        s.of("II", "and: PLACES of A in LINES in which B has one; but: in LINES in which it has none; or: those of both.");
        WordPlaces x = Due.book("a b a", "a c-", "b a", "b", "", "a b");
        asked(x, "a and b", "0 2 7");
        asked(x, "a but b", "3 5");
        asked(x, "a or b", "0 1 2 3 5 6 7 8");
        asked(x, "a and cb", "3");
        asked(x, "a but cb", "0 2 5 7");
        asked(x, "cb and a", "4");
        asked(x, "a and a", "0 2 3 5 7");
        asked(x, "a but a", "");
        asked(x, "a or a", "0 2 3 5 7");
        asked(x, "a and zz", "");
        asked(x, "a but zz", "0 2 3 5 7");
        asked(x, "zz or a", "0 2 3 5 7");
        asked(x, "zz and a", "");
        x = new WordPlaces();
        for (int i = 0; i < 40; i++) {
            Due.line(x, 0, i == 39 ? "a b" : i == 0 ? "b a" : "a");
        }
        asked(x, "a and b", "1 40");
        asked(x, "b and a", "0 41");
        asked(x, "b but a", "");
    }

    private void rising() {
        s.of("II", "An ASK is answered by its PLACES, rising.");
        WordPlaces x = Due.book("c b a", "a b c");
        asked(x, "a or b", "1 2 3 4");
        asked(x, "c or b or a", "0 1 2 3 4 5");
        Due.rules(x, "root b of c a;");
        asked(x, "root b", "0 1 2 3 4 5");
    }

    private void numbersBeyond() {
        s.of("FAULTS", "a number beyond 1 .. 50 (of the word or number)");
        WordPlaces x = Due.book("a b");
        for (String op : new String[] {"near", "before", "far"}) {
            for (String number : new String[] {"0", "00", "51", "051", "99", "100", "255", "256", "257", "65537", "2147483647",
                "2147483648", "4294967295", "4294967296", "4294967297", "18446744073709551617", Due.times("9", 300)}) {
                refused("a " + op + " " + number + " b", 2, 3 + op.length());
                refused("a " + op + " " + number, 2, 3 + op.length());
            }
            for (String number : new String[] {"1", "50", "01", "050", Due.times("0", 300) + "50"}) {
                s.is(op + " " + number, Due.ask(x, 0, "a " + op + " " + number + " b"), op.equals("far") ? 0 : 1);
            }
        }
    }

    private void oneUnitTooMany() {
        s.of("FAULTS", "a 31st UNIT of an ASK, at its first TOKEN");
        WordPlaces x = Due.book("a b c");
        asked(x, Due.times("c or ", 29) + "b", "1 2");
        for (String unit : new String[] {"a", "root q", "\"a\"", "(a)", "root", "\"", "(", "root near", "\"5", "()"}) {
            refused(Due.times("a or ", 30) + unit, 3, 150);
            refused(Due.times("a or ", 30) + " \n" + unit, 3, 152);
        }
        asked(x, Due.times("c or ", 29) + "root q", "2");
        asked(x, Due.times("c or ", 29) + "\"b c\"", "1 2");
        asked(x, Due.times("\"c\" or ", 29) + "\"b\"", "1 2");
        refused(Due.times("\"c\" or ", 30) + "\"b\"", 3, 210);
        refused(Due.times("root q or ", 30) + "root q", 3, 300);
        asked(x, "a", "0");
    }

    private void sevenDeep() {
        s.of("FAULTS", "a ( seven deep");
        WordPlaces x = Due.book("a b c");
        for (int deep = 0; deep <= 6; deep++) {
            asked(x, Due.times("(", deep) + "b" + Due.times(")", deep), "1");
        }
        for (int deep = 7; deep <= 20; deep++) {
            refused(Due.times("(", deep) + "b" + Due.times(")", deep), 3, 6);
        }
        asked(x, "((((((a)))))) or ((((((b))))))", "0 1");
        refused("((((((a)))))) or (((((((b)))))))", 3, 23);
        asked(x, "a or (b or (c and (a or (b or (c and (a or b))))))", "0 1 2");
        asked(x, "((((((\"a\"))))))", "0");
        refused("a or (b or (c and (a or (b or (c and ((a or b)))))))", 3, 38);
        refused("a and ((((((", 1, 12);
    }

    private void howManyAnswer() {
        s.of("Promise 14", "The TAPE (empty then) is an ASK of an EDITION (II): how many PLACES answer it");
        WordPlaces x = Sentences.ofLetters(Due.times("a", 300));
        s.is("300", Due.ask(x, 0, "a"), 300);
        s.is("the TAPE is empty", x.count(5), 0);
        s.is("answer(299, 0)", x.answer(299, 0), 299);
        s.is("0", Due.ask(x, 0, "b"), 0);
        s.is("0 of EDITION 1", Due.ask(x, 1, "a"), 0);
        Due.line(x, 1, "b");
        s.is("1 of EDITION 1", Due.ask(x, 1, "b"), 1);
        s.is("the TAPE is empty", x.count(5), 0);
    }

    private void noSuchEdition() {
        s.of("Promise 14", "-2 (the TAPE stays): there is no such EDITION");
        WordPlaces x = Due.book("a");
        for (int e : Sentences.beyond(2)) {
            s.is("ask(" + e + ") of an empty TAPE", x.ask(e), -2);
        }
        Due.put(x, "a");
        for (int e : Sentences.beyond(2)) {
            s.is("ask(" + e + ")", x.ask(e), -2);
            s.is("the TAPE stays", x.count(5), 1);
        }
        s.is("ask(0) of it", x.ask(0), 1);
    }

    private void refusedAsk() {
        s.of("Promise 14", "-4: a FAULT (what answered ahead stays)");
        WordPlaces x = Due.book("a b a");
        s.is("a FAULT ahead of any", Due.ask(x, 0, "5"), -4);
        s.are("none", Due.answered(x), "");
        Due.ask(x, 0, "a");
        for (String text : new String[] {"", "b or", "b 5", "b near 51 a", "(b", "\"b", "(((((((b", Due.times("b or ", 31)}) {
            s.is("ask " + text, Due.ask(x, 0, text), -4);
            s.is("the TAPE is empty", x.count(5), 0);
            s.are("what answered ahead", Due.answered(x), "0 2");
        }
        s.is("a FAULT of EDITION 1", Due.ask(x, 1, "b or"), -4);
        s.are("what answered ahead", Due.answered(x), "0 2");
        s.is("none answer", Due.ask(x, 0, "zz"), 0);
        s.are("which is the latest", Due.answered(x), "");
    }

    private void answersTold() {
        s.of("Promise 15", "Of PLACE i of the latest answer, what 0: the PLACE, 1: its LINE, 2: which WORD of it");
        WordPlaces x = Due.book("b a", "", "a-", "c d a a");
        Due.ask(x, 0, "a");
        int[][] due = {{1, 0, 1}, {4, 3, 1}, {5, 3, 2}};
        for (int i = 0; i < 3; i++) {
            for (int what = 0; what < 3; what++) {
                s.is("answer(" + i + ", " + what + ")", x.answer(i, what), due[i][what]);
            }
        }
        Due.line(x, 1, "a");
        Due.ask(x, 1, "a");
        s.is("the latest answer(0, 0)", x.answer(0, 0), 0);
        s.is("the latest answer(1, 0)", x.answer(1, 0), NOTHING);
    }

    private void asItWasThen() {
        s.of("Promise 15", "(as it was then)");
        WordPlaces x = Due.book("b", "c a");
        x.keep(0);
        Due.ask(x, 0, "a");
        answerIs(x);
        Due.put(x, "x y z").right(0, 0);
        answerIs(x);
        Due.put(x, "").right(0, 1);
        answerIs(x);
        Due.rules(x, "stop a;fold a to b;");
        answerIs(x);
        Due.put(x, "a");
        x.ask(2);
        x.end(0);
        answerIs(x);
        x.back(0);
        answerIs(x);
    }

    private void answerIs(WordPlaces x) {
        s.is("answer(0, 0)", x.answer(0, 0), 2);
        s.is("answer(0, 1)", x.answer(0, 1), 1);
        s.is("answer(0, 2)", x.answer(0, 2), 1);
        s.is("answer(1, 0)", x.answer(1, 0), NOTHING);
    }

    private void answerOfNothing() {
        s.of("Promise 15", "NOTHING for others");
        WordPlaces x = new WordPlaces();
        s.is("ahead of any", x.answer(0, 0), NOTHING);
        Sentences.addLetters(x, 0, Due.times("a", 300));
        for (int n : new int[] {300, 2, 0}) {
            Due.ask(x, 0, n == 300 ? "a" : n == 2 ? "b" : "c");
            for (int i : Sentences.beyond(n)) {
                s.is("answer(" + i + ", 0) of " + n, x.answer(i, 0), NOTHING);
            }
            for (int what : Sentences.beyond(3)) {
                s.is("answer(0, " + what + ") of " + n, x.answer(0, what), NOTHING);
            }
            Due.put(x, "b a b").right(0, 0);
        }
    }
}
