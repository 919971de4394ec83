/** Promises 16 to 22: LISTS, SHARES, LIKENESS. */
public final class ListsTest {
    private static final Due due = new Due("ListsTest");

    public static void main(String[] args) {
        standing();
        packed();
        sharesTold();
        sharesOfBlankLines();
        likeness();
        likenessOfLongOnes();
        due.end();
    }

    private static void standing() {
        WordPlaces x = Due.book("a b a", "c a");
        Due.line(x, 1, "z a");
        due.is("stands(0, 0, 0)", x.stands(0, 0, 0), 0);
        due.is("stands(0, 0, 1)", x.stands(0, 0, 1), 2);
        due.is("stands(0, 0, 2)", x.stands(0, 0, 2), 4);
        due.is("stands(0, 0, 3)", x.stands(0, 0, 3), -1);
        due.is("stands(0, 0, -1)", x.stands(0, 0, -1), -1);
        due.is("stands(1, 0, 0)", x.stands(1, 0, 0), 1);
        due.is("stands(1, 1, 0)", x.stands(1, 1, 0), -1);
        due.is("stands(0, 3, 0)", x.stands(0, 3, 0), -1);
        due.is("stands(0, 4, 0)", x.stands(0, 4, 0), -1);
        due.is("stands(0, -1, 0)", x.stands(0, -1, 0), -1);
        due.is("stands(2, 0, 0)", x.stands(2, 0, 0), -1);
        due.is("stands(-1, 0, 0)", x.stands(-1, 0, 0), -1);
    }

    private static void packed() {
        // The PLACES of a are 0, 3, 9: GAPS 1, 3, 6, less 1: 0, 2, 5.
        WordPlaces x = Due.book("a b c a", "d d d d d a");
        Due.line(x, 1, "z");
        due.is("pack(0, 0, 0)", x.pack(0, 0, 0), 10);
        due.is("pack(0, 0, 1)", x.pack(0, 0, 1), 9);
        due.is("pack(0, 0, 2)", x.pack(0, 0, 2), 10);
        due.is("pack(0, 0, 3)", x.pack(0, 0, 3), 12);
        due.is("pack(0, 0, 10)", x.pack(0, 0, 10), 33);
        due.is("pack(0, 0, NONE)", x.pack(0, 0, -1), 9);
        due.is("pack(0, 0, 11)", x.pack(0, 0, 11), -2);
        due.is("pack(0, 0, -2)", x.pack(0, 0, -2), -2);
        due.is("pack(0, 5, 0)", x.pack(0, 5, 0), -2);
        due.is("pack(0, -1, 0)", x.pack(0, -1, 0), -2);
        due.is("pack(2, 0, 0)", x.pack(2, 0, 0), -2);
        due.is("a LIST without PLACES", x.pack(0, 4, 3), 0);
        due.is("a LIST without PLACES, the least", x.pack(0, 4, -1), 0);
        due.is("pack(1, 4, 0)", x.pack(1, 4, 0), 1);
        // b: 2; c: 2 by k 0 is 3, by k 1 is 1 + 1 + 1; d: 4 and four of 0.
        due.is("b by 0", x.pack(0, 1, 0), 2);
        due.is("c by 0", x.pack(0, 2, 0), 3);
        due.is("d by 0", x.pack(0, 3, 0), 9);
        due.is("room(0)", x.room(0), 9 + 2 + 3 + 9);
        due.is("room(1)", x.room(1), 1);
        due.is("room(2)", x.room(2), -2);
        due.is("room(-1)", x.room(-1), -2);
        due.is("room of nothing", new WordPlaces().room(0), 0);
    }

    private static String starts(WordPlaces x) {
        StringBuilder text = new StringBuilder();
        for (int i = 0; x.share(i) >= 0; i++) {
            text.append(i > 0 ? " " : "").append(x.share(i));
        }
        return text.toString();
    }

    private static void sharesTold() {
        WordPlaces x = Due.book("a a a", "a", "a a", "a a a a", "a");
        due.is("share ahead of any", x.share(0), -1);
        due.is("shares(0, 1)", x.shares(0, 1), 11);
        due.are("starts", starts(x), "0");
        due.is("shares(0, 2)", x.shares(0, 2), 6);
        due.are("starts", starts(x), "0 3");
        due.is("shares(0, 3)", x.shares(0, 3), 5);
        due.are("the first has the fewest", starts(x), "0 1 3");
        due.is("shares(0, 4)", x.shares(0, 4), 4);
        due.are("starts", starts(x), "0 1 3 4");
        due.is("shares(0, 8)", x.shares(0, 8), 4);
        due.are("some have none", starts(x), "0 0 0 0 0 1 3 4");
        due.is("share(8)", x.share(8), -1);
        due.is("share(-1)", x.share(-1), -1);
        due.is("shares(0, 9)", x.shares(0, 9), -2);
        due.is("shares(0, 0)", x.shares(0, 0), -2);
        due.is("shares(2, 1)", x.shares(2, 1), -2);
        due.are("those that told a number stay", starts(x), "0 0 0 0 0 1 3 4");
        Due.put(x, "").right(0, 0);
        due.are("as they were", starts(x), "0 0 0 0 0 1 3 4");
    }

    private static void sharesOfBlankLines() {
        WordPlaces x = Due.book("", "a b-", "c", "", "d");
        due.is("WORDS that begin in LINES", x.shares(0, 2), 2);
        due.are("starts", starts(x), "0 2");
        due.is("shares(0, 3)", x.shares(0, 3), 2);
        due.are("starts", starts(x), "0 0 2");
        x = Due.book("a", "");
        due.is("shares(0, 2)", x.shares(0, 2), 1);
        due.are("none for the first", starts(x), "0 0");
        x = Due.book("", "");
        due.is("no WORDS", x.shares(0, 3), 0);
        due.are("starts", starts(x), "0 0 0");
        x = new WordPlaces();
        due.is("no LINES", x.shares(1, 2), 0);
        due.are("the number of LINES", starts(x), "0 0");
    }

    private static String pairs(WordPlaces x) {
        StringBuilder text = new StringBuilder();
        for (int p = 0; p < x.edition(0, 1); p++) {
            text.append(p > 0 ? " " : "").append(x.matched(p));
        }
        return text.toString();
    }

    private static void likeness() {
        WordPlaces x = Due.book("a b c b d a b");
        Due.line(x, 1, "b d c a b a");
        due.is("alike", x.alike(), 4);
        due.are("matched", pairs(x), "-1 0 -1 -1 1 3 4");
        due.is("matched(-1)", x.matched(-1), -1);
        due.is("matched(7)", x.matched(7), -1);
        x = Due.book("a b");
        Due.line(x, 1, "b a");
        due.is("alike", x.alike(), 1);
        due.are("EDITION 0 is left first", pairs(x), "-1 0");
        Due.put(x, "a a").right(1, 0);
        due.are("the first that is like", pairs(x), "0 -1");
        Due.rules(x, "fold b to a;stop a;");
        due.are("by FORMS now", pairs(x), "0 1");
        due.is("alike", x.alike(), 2);
        x = new WordPlaces();
        for (int i = 0; i < 10; i++) {
            Due.line(x, 0, Due.times("a ", 30));
            Due.line(x, 1, Due.times("a ", 30));
        }
        due.is("300 and 300", x.alike(), 300);
        due.is("matched(299)", x.matched(299), 299);
        due.is("matched(300)", x.matched(300), -1);
    }

    /** Two EDITIONS of 300 WORDS of a few letters, told by a rule, against the model. */
    private static void likenessOfLongOnes() {
        WordPlaces x = new WordPlaces();
        Model m = new Model();
        int state = 7;
        for (int i = 0; i < 20; i++) {
            StringBuilder text = new StringBuilder();
            for (int j = 0; j < 30; j++) {
                state = state * 1103515245 + 12345;
                text.append((char) ('a' + (state >>> 16) % 5)).append(' ');
            }
            Due.line(x, i % 2, text.toString());
            m.addLine(i % 2, text.toString());
        }
        due.is("alike", x.alike(), m.alike());
        for (int p = 0; p < 300; p++) {
            due.is("matched(" + p + ")", x.matched(p), m.matched(p));
        }
    }
}
