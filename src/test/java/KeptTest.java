/** Promises 8 and 32 to 37: SLOTS, IMAGES, counts. */
public final class KeptTest {
    private static final Due due = new Due("KeptTest");
    private static final int NOTHING = -2000000000;

    public static void main(String[] args) {
        images();
        imagesApart();
        rows();
        linesOfSlots();
        pastes();
        due.end();
    }

    private static void images() {
        WordPlaces x = Due.book("a b", "c");
        due.is("back(0)", x.back(0), -6);
        due.is("back(3)", x.back(3), -2);
        due.is("back(-1)", x.back(-1), -2);
        due.is("keep(3)", x.keep(3), -2);
        due.is("keep(-1)", x.keep(-1), -2);
        Due.line(x, 1, "d");
        Due.rules(x, "fold a to b;stop c;root d of e;order zyx;");
        Due.slip(x, 2, 1, "q");
        Due.put(x, "tape");
        due.is("keep(2)", x.keep(2), 0);
        due.is("the TAPE stays", x.count(5), 4);
        x.end(0);
        Due.rules(x, "stop b;");
        Due.line(x, 0, "z z z");
        Due.put(x, "").right(1, 0);
        Due.slip(x, 2, 1, "b");
        Due.slip(x, 0, 0, "b");
        x.row(0, 0, 3);
        Due.ask(x, 0, "z");
        Due.put(x, "tape");
        due.is("back(2)", x.back(2), 0);
        due.is("the TAPE stays", x.count(5), 4);
        x.end(0);
        due.is("SLOTS stay", x.count(7), 1);
        due.are("answers stay", Due.answered(x), "3 4 5");
        due.are("forms", Due.allForms(x), "b c d");
        due.is("LINES", x.count(0), 3);
        due.is("WORDS", x.count(1), 4);
        due.is("RULES", x.count(2), 4);
        due.is("STOPS", x.count(3), 1);
        due.is("ROOTS", x.count(4), 1);
        due.is("folded", x.count(8), 1);
        due.is("SLIPS", x.count(6), 1);
        due.is("wrong", x.hand(2, 1), 1);
        due.is("c is a STOP", x.form(1, 3), 1);
        due.is("edition(1, 1)", x.edition(1, 1), 1);
        due.is("alike", x.alike(), 0);
        due.is("back(0)", x.back(0), -6);
    }

    private static void imagesApart() {
        WordPlaces x = new WordPlaces();
        x.keep(0);
        Due.line(x, 0, "a");
        x.keep(1);
        Due.line(x, 0, "b");
        x.keep(2);
        x.back(0);
        due.is("image 0", x.count(1), 0);
        due.is("word(0, 0, 0)", x.word(0, 0, 0), NOTHING);
        x.back(2);
        due.are("image 2", Due.allForms(x), "a b");
        x.back(1);
        due.are("image 1", Due.allForms(x), "a");
        Due.put(x, "q").right(0, 0);
        x.back(1);
        due.are("image 1 is kept apart", Due.allForms(x), "a");
        Due.line(x, 0, "z");
        x.keep(1);
        x.back(2);
        x.back(1);
        due.are("image 1 anew", Due.allForms(x), "a z");
    }

    private static void rows() {
        WordPlaces x = new WordPlaces();
        due.is("row(0, 0, 60)", x.row(0, 0, 60), 0);
        due.is("row(3, 3, 0)", x.row(3, 3, 0), 0);
        due.is("count(7)", x.count(7), 2);
        due.is("row(4, 0, 1)", x.row(4, 0, 1), -2);
        due.is("row(-1, 0, 1)", x.row(-1, 0, 1), -2);
        due.is("row(1, 4, 1)", x.row(1, 4, 1), -2);
        due.is("row(1, -1, 1)", x.row(1, -1, 1), -2);
        due.is("row(1, 0, 61)", x.row(1, 0, 61), -2);
        due.is("row(1, 0, -1)", x.row(1, 0, -1), -3);
        due.is("row(1, 4, -1)", x.row(1, 4, -1), -2);
        due.is("count(7)", x.count(7), 2);
        due.is("row(0, 0, -1)", x.row(0, 0, -1), -3);
        due.is("the SLOT stays", x.write(0, 59, 1), 0);
        due.is("write(0, 60, 1)", x.write(0, 60, 1), -7);
        due.is("write(0, -1, 1)", x.write(0, -1, 1), -7);
        due.is("write(1, 0, 1)", x.write(1, 0, 1), -6);
        due.is("write(4, 0, 1)", x.write(4, 0, 1), -2);
        due.is("write(-1, 0, 1)", x.write(-1, 0, 1), -2);
        due.is("write(3, 0, 1)", x.write(3, 0, 1), -7);
        due.is("a row in place of another", x.row(0, 2, 1), 0);
        due.is("write(0, 1, 1)", x.write(0, 1, 1), -7);
        due.is("count(7)", x.count(7), 2);
    }

    private static void writeAll(WordPlaces x, int slot, String text) {
        for (int i = 0; i < text.length(); i++) {
            x.write(slot, i, text.charAt(i));
        }
    }

    private static void linesOfSlots() {
        WordPlaces x = new WordPlaces();
        due.is("lineOf(0, 0)", x.lineOf(0, 0), -6);
        due.is("lineOf(0, 4)", x.lineOf(0, 4), -2);
        due.is("lineOf(0, -1)", x.lineOf(0, -1), -2);
        due.is("lineOf(2, 0)", x.lineOf(2, 0), -2);
        x.row(0, 0, 5);
        due.is("all 0", x.lineOf(0, 0), -4);
        writeAll(x, 0, "ab-cd");
        Due.put(x, "tape");
        due.is("lineOf(0, 0)", x.lineOf(0, 0), 0);
        due.is("lineOf(0, 0)", x.lineOf(0, 0), 1);
        due.is("the TAPE stays", x.count(5), 4);
        due.are("forms", Due.allForms(x), "ab cd");
        due.is("edition(0, 1)", x.edition(0, 1), 4);
        x.write(0, 0, 'x' + 256L * 77);
        due.is("cut to a byte", x.lineOf(0, 0), 2);
        due.is("xb", Due.formOf(x, "xb"), 2);
        x.write(0, 0, 'x' + 128);
        due.is("a byte that is no letter", x.lineOf(0, 0), -4);
        x.row(1, 1, 5);
        due.is("another WIDTH", x.lineOf(0, 1), -8);
        x.row(1, 0, 0);
        due.is("an empty LINE", x.lineOf(0, 1), 3);
        for (int i = 4; i < 40; i++) {
            x.lineOf(0, 1);
        }
        due.is("a 41st LINE", x.lineOf(0, 1), -3);
        due.is("edition(0, 0)", x.edition(0, 0), 40);
        due.is("the TAPE stays", x.count(5), 4);
    }

    private static void pasted(String call, int got, int want, WordPlaces x, String forms) {
        due.is(call, got, want);
        x.lineOf(0, 0);
        due.are(call, Due.allForms(x), forms);
        x.back(0);
    }

    private static void pastes() {
        WordPlaces x = new WordPlaces();
        x.keep(0);
        due.is("paste(0, 0, 1, 0, 0)", x.paste(0, 0, 1, 0, 0), -6);
        x.row(0, 0, 6);
        writeAll(x, 0, "abcdef");
        due.is("the other has nothing", x.paste(0, 0, 1, 0, 0), -6);
        due.is("the other has nothing", x.paste(1, 0, 0, 0, 0), -6);
        x.row(1, 1, 6);
        due.is("not of one WIDTH", x.paste(0, 0, 1, 0, 99), -8);
        due.is("no such SLOT", x.paste(4, 0, 1, 0, 1), -2);
        due.is("no such SLOT", x.paste(0, 0, 4, 0, 1), -2);
        due.is("no such SLOT", x.paste(-1, 0, 2, 0, 1), -2);
        x.row(1, 0, 3);
        writeAll(x, 1, "xyz");
        pasted("as they were", x.paste(0, 0, 0, 2, 4), 0, x, "ababcd");
        pasted("as they were", x.paste(0, 2, 0, 0, 4), 0, x, "abcdcd");
        pasted("another's", x.paste(1, 1, 0, 4, 2), 0, x, "abcdyz");
        pasted("beyond the row", x.paste(1, 0, 0, 4, 3), -7, x, "abcdyz");
        pasted("beyond its own row", x.paste(1, 1, 0, 0, 3), -7, x, "abcdyz");
        pasted("below 0", x.paste(1, -1, 0, 0, 1), -7, x, "abcdyz");
        pasted("below 0", x.paste(1, 0, 0, -1, 1), -7, x, "abcdyz");
        pasted("n below 0", x.paste(1, 0, 0, 0, -1), -7, x, "abcdyz");
        pasted("far beyond", x.paste(1, 2147483647, 0, 0, 2147483647), -7, x, "abcdyz");
        pasted("far beyond", x.paste(1, 0, 0, 2147483647, 1), -7, x, "abcdyz");
        due.is("n 0 at the end", x.paste(1, 3, 0, 6, 0), 0);
        due.is("n 0 beyond", x.paste(1, 4, 0, 0, 0), -7);
        due.is("n 0 beyond", x.paste(1, 0, 0, 7, 0), -7);
    }
}
