/** Promises 14, 15 and 5: ASKS, what answers them, and their FAULTS. */
public final class AskTest {
    private static final Due due = new Due("AskTest");
    private static final int NOTHING = -2000000000;

    public static void main(String[] args) {
        units();
        nearness();
        lines();
        fromTheLeft();
        answers();
        faults();
        limits();
        due.end();
    }

    private static void asked(WordPlaces x, String text, String want) {
        int n = want.isEmpty() ? 0 : want.split(" ").length;
        due.is("ask " + text, Due.ask(x, 0, text), n);
        due.are("ask " + text, Due.answered(x), want);
        due.is("fault(0) of " + text, x.fault(0), 0);
        due.is("fault(1) of " + text, x.fault(1), -1);
        due.is("the TAPE is empty", x.count(5), 0);
    }

    private static void units() {
        WordPlaces x = Due.book("rex et regina et", "regis near rex et regina");
        Due.rules(x, "stop et;root rex of regis et;root rex of near;root mus of muris;fold j to i;");
        asked(x, "rex", "0 6");
        asked(x, "  rex \n", "0 6");
        asked(x, "et", "");
        asked(x, "mus", "");
        asked(x, "reiina", "");
        asked(x, "root rex", "0 1 3 4 6 7");
        asked(x, "root mus", "");
        asked(x, "root regis", "");
        asked(x, "root et", "");
        asked(x, "\"rex et\"", "0 6");
        asked(x, "\"et\"", "1 3 7");
        asked(x, "\"et regis\"", "3");
        asked(x, "\"regis near rex et regina\"", "4");
        asked(x, "\"regina et rex\"", "");
        asked(x, "\"regina\"or\"near\"", "2 5 8");
        asked(x, "\"regina rex\"", "");
        asked(x, "\"et regina mus\"", "");
        asked(x, "(rex)", "0 6");
        asked(x, "( ( rex ) or (regis) )", "0 4 6");
        Due.rules(x, "fold e to a;fold x to s;root rex of ragis;");
        asked(x, "ras", "0 6");
        asked(x, "rex", "0 6");
        asked(x, "root ras", "0 4 6");
        asked(x, "\"naar rax\"", "5");
        x = Due.book("a b a b");
        Due.put(x, "a b a").right(0, 0);
        asked(x, "\"a b\"", "0");
        String twenty = "abcdefghijklmnopqrst";
        asked(Due.book(twenty + "uv"), twenty + "xyz", "0");
    }

    private static void nearness() {
        WordPlaces x = Due.book("a b a c d", "a e f g a");
        asked(x, "a near 1 b", "0 2");
        asked(x, "a near 2 b", "0 2");
        asked(x, "a near 4 b", "0 2 5");
        asked(x, "a near 50 a", "0 2 5 9");
        asked(x, "a near 2 a", "0 2");
        asked(x, "b near 1 b", "");
        asked(x, "a before 1 b", "0");
        asked(x, "a before 2 a", "0");
        asked(x, "a before 3 a", "0 2");
        asked(x, "a before 50 a", "0 2 5");
        asked(x, "d before 1 a", "4");
        asked(x, "a far 1 b", "5 9");
        asked(x, "a far 3 a", "9");
        asked(x, "a far 4 a", "");
        asked(x, "a far 50 z", "0 2 5 9");
        asked(x, "a near 050 z", "");
        Due.rules(x, "stop c;");
        asked(x, "a before 1 d", "");
        asked(x, "a before 2 d", "2");
    }

    private static void lines() {
        WordPlaces x = Due.book("a b a", "a c-", "b a", "b");
        due.is("cb is one WORD", x.edition(0, 1), 7);
        asked(x, "a and b", "0 2");
        asked(x, "a and cb", "3");
        asked(x, "a but b", "3 5");
        asked(x, "b but a", "6");
        asked(x, "a or b", "0 1 2 3 5 6");
        asked(x, "a and a", "0 2 3 5");
        asked(x, "a but a", "");
        due.is("the other EDITION has none", Due.ask(x, 1, "a or b"), 0);
    }

    private static void fromTheLeft() {
        WordPlaces x = Due.book("a b", "c d", "a d");
        asked(x, "c or a and b", "0");
        asked(x, "c or (a and b)", "0 2");
        asked(x, "a and b or c", "0 2");
        asked(x, "a but (b or c) or (d near 1 c)", "3 4");
        asked(x, "d but a or (c before 1 d) near 1 d", "2");
    }

    private static void answers() {
        WordPlaces x = new WordPlaces();
        due.is("answer(0, 0) ahead of any", x.answer(0, 0), NOTHING);
        Due.line(x, 0, "b a");
        Due.line(x, 0, "c a a");
        Due.line(x, 1, "a");
        Due.ask(x, 0, "a");
        due.is("answer(2, 0)", x.answer(2, 0), 4);
        due.is("answer(2, 1)", x.answer(2, 1), 1);
        due.is("answer(2, 2)", x.answer(2, 2), 2);
        due.is("answer(2, 3)", x.answer(2, 3), NOTHING);
        due.is("answer(2, -1)", x.answer(2, -1), NOTHING);
        due.is("answer(3, 0)", x.answer(3, 0), NOTHING);
        due.is("answer(-1, 0)", x.answer(-1, 0), NOTHING);
        due.is("a FAULT", Due.ask(x, 0, "c or"), -4);
        due.are("what answered ahead stays", Due.answered(x), "1 3 4");
        due.is("the TAPE is empty by -4", x.count(5), 0);
        Due.put(x, "c").right(0, 0);
        due.are("as it was then", Due.answered(x), "1 3 4");
        due.is("as it was then", x.answer(1, 1), 1);
        Due.put(x, "c");
        due.is("ask(2)", x.ask(2), -2);
        due.is("ask(-1)", x.ask(-1), -2);
        due.is("the TAPE stays", x.count(5), 1);
        due.is("ask(1)", x.ask(1), 0);
        due.are("none", Due.answered(x), "");
    }

    private static void fault(String text, int fault, int place) {
        WordPlaces x = Due.book("a b c");
        due.is("ask " + text, Due.ask(x, 0, text), -4);
        due.is("FAULT of " + text, x.fault(0), fault);
        due.is("its place of " + text, x.fault(1), place);
    }

    private static void faults() {
        fault("", 1, 0);
        fault("   ", 1, 3);
        fault("near", 1, 0);
        fault("or", 1, 0);
        fault("a b", 1, 2);
        fault("a xr b", 1, 2);
        fault("a ox b", 1, 2);
        fault("a root", 1, 2);
        fault("a or", 1, 4);
        fault("a or ", 1, 5);
        fault("a or and", 1, 5);
        fault("a or )", 1, 5);
        fault("a near b", 1, 7);
        fault("a near", 1, 6);
        fault("a near 0 b", 2, 7);
        fault("a near 51 b", 2, 7);
        fault("a far 99999999999999999999 b", 2, 6);
        fault("a before 4294967297", 2, 9);
        fault("a near 51", 2, 7);
        fault("a near 5", 1, 8);
        fault("a and 5 b", 1, 6);
        fault("5", 1, 0);
        fault("99", 1, 0);
        fault("a; b", 1, 1);
        fault("a or b!", 1, 6);
        fault("A", 1, 0);
        fault("root", 1, 4);
        fault("root near", 1, 5);
        fault("root root", 1, 5);
        fault("root \"a\"", 1, 5);
        fault("\"\"", 1, 1);
        fault("\"a", 1, 2);
        fault("\"a 5\"", 1, 3);
        fault("\"a (b)\"", 1, 3);
        fault("(a", 1, 2);
        fault("()", 1, 1);
        fault("a)", 1, 1);
        fault("(a))", 1, 3);
        fault("(a or) b", 1, 5);
        fault("a (b)", 1, 2);
    }

    private static void limits() {
        WordPlaces x = Due.book("a b c");
        asked(x, "\"near\" or \"root\" or a", "0");
        asked(x, "((((((a))))))", "0");
        fault("(((((((a)))))))", 3, 6);
        fault("a or (((((((a)))))))", 3, 11);
        asked(x, Due.times("a or ", 29) + "b", "0 1");
        fault(Due.times("a or ", 30) + "b", 3, 150);
        fault(Due.times("a or ", 30) + "(", 3, 150);
        fault(Due.times("a or ", 30) + "root", 3, 150);
        fault(Due.times("a or ", 30) + "\"", 3, 150);
        fault(Due.times("a or ", 30) + ")", 1, 150);
        fault(Due.times("a or ", 30) + "or", 1, 150);
        fault(Due.times("a or ", 30), 1, 150);
        fault(Due.times("a or ", 15) + "(" + Due.times("a or ", 15) + "a)", 3, 146);
        asked(x, "\"" + Due.times("a ", 190) + "\"", "");
    }
}
