/** Promises 1 to 5 and 8 of the TERMS: the TAPE, RULES and their FAULTS. */
public final class RulesTest {
    private static final Due due = new Due("RulesTest");

    public static void main(String[] args) {
        newObject();
        tape();
        rulesTold();
        faults();
        faultPlaces();
        due.end();
    }

    private static void newObject() {
        WordPlaces x = new WordPlaces();
        for (int what = 0; what <= 8; what++) {
            due.is("count(" + what + ") of a new object", x.count(what), 0);
        }
        due.is("count(9)", x.count(9), -1);
        due.is("count(-1)", x.count(-1), -1);
        due.is("fault(0)", x.fault(0), 0);
        due.is("fault(1)", x.fault(1), -1);
        due.is("fault(2)", x.fault(2), -1);
        due.is("fault(-1)", x.fault(-1), -1);
        due.is("NONE", WordPlaces.NONE, -1);
    }

    private static void tape() {
        WordPlaces x = new WordPlaces();
        for (int i = 1; i <= 20; i++) {
            due.is("feed " + i, x.feed(-1, 0, 1, 2, 3), 20 * i);
        }
        due.is("feed beyond 400", x.feed(0, 0, 0, 0, 0), -1);
        due.is("count(5)", x.count(5), 400);
        due.is("end(401)", x.end(401), -1);
        due.is("end(-1)", x.end(-1), -1);
        due.is("end(400)", x.end(400), 400);
        due.is("end(381)", x.end(381), 381);
        due.is("feed that would have 401", x.feed(0, 0, 0, 0, 0), -1);
        due.is("count(5)", x.count(5), 381);
        due.is("end(380)", x.end(380), 380);
        due.is("feed up to 400", x.feed(0, 0, 0, 0, 0), 400);
        due.is("end(0)", x.end(0), 0);
        due.is("end(1) of an empty one", x.end(1), -1);
        // The highest byte of each number first.
        x.feed(0x61626364, 0x65662067, 0x68000000, 0, 0);
        x.end(9);
        due.is("line of it", x.line(0), 0);
        due.are("its forms", Due.allForms(x), "abcdef gh");
    }

    private static void rulesTold() {
        WordPlaces x = new WordPlaces();
        due.is("rules", Due.rules(x, "fold v to u;fold j to i; stop et;stop in ;\nroot rex of regis regem rege regi;"
            + "root sum of est;order zyx;"), 7);
        due.is("count(2)", x.count(2), 7);
        due.is("count(3)", x.count(3), 2);
        due.is("count(4)", x.count(4), 2);
        due.is("count(8)", x.count(8), 2);
        due.is("the TAPE is empty", x.count(5), 0);
        due.is("fault(0)", x.fault(0), 0);
        due.is("fault(1)", x.fault(1), -1);
        due.is("a FAULT", Due.rules(x, "stop;"), -4);
        due.is("the TAPE is empty", x.count(5), 0);
        due.is("those ahead stay", x.count(2), 7);
        due.is("no RULES", x.rules(), 0);
        due.is("count(2)", x.count(2), 0);
        due.is("count(8)", x.count(8), 0);
        due.is("keywords are WORDS", Due.rules(x, "stop stop;root of of of root;stop to;order order;"), -4);
        due.is("o r d e r has a letter twice", x.fault(0), 2);
        due.is("keywords are WORDS", Due.rules(x, "stop stop;root of of of root;stop to;order of;"), 4);
        due.is("no blanks needed but between words", Due.rules(x, "stop a;stop b;"), 2);
        due.is("blanks alone", Due.rules(x, " \n "), 0);
        due.is("20 RULES", Due.rules(x, Due.times("stop a;", 20)), 20);
        due.is("count(3)", x.count(3), 20);
        due.is("fold a to a", Due.rules(x, "fold a to a;"), 1);
        due.is("count(8)", x.count(8), 1);
        due.is("26 letters", Due.rules(x, "order zyxwvutsrqponmlkjihgfedcba;"), 1);
    }

    private static void fault(String text, int fault, int place) {
        WordPlaces x = new WordPlaces();
        Due.rules(x, "stop a;stop b;stop c;");
        due.is("rules " + text, Due.rules(x, text), fault == 0 ? x.count(2) : -4);
        due.is("FAULT of " + text, x.fault(0), fault);
        due.is("its place of " + text, x.fault(1), place);
        if (fault != 0) {
            due.is("those ahead stay by " + text, x.count(2), 3);
        }
    }

    private static void faults() {
        fault("", 0, -1);
        fault("stop a", 1, 6);
        fault("stop a  ", 1, 8);
        fault("stop", 1, 4);
        fault("stop ;", 1, 5);
        fault("stop 1;", 1, 5);
        fault("stop a b;", 1, 7);
        fault(";", 1, 0);
        fault("halt a;", 1, 0);
        fault("stops a;", 1, 0);
        fault("xtop a;", 1, 0);
        fault("stox a;", 1, 0);
        fault("7;", 1, 0);
        fault("  Stop a;", 1, 2);
        fault("stop a-b;", 1, 6);
        fault("stop a;;", 1, 7);
        fault("stop \"a\";", 1, 5);
        fault("fold a to b;fold a to c;", 2, 17);
        fault("fold a to b;fold b to a;", 0, -1);
        fault("fold a b;", 1, 7);
        fault("fold ab to c;", 1, 5);
        fault("fold a to bc;", 1, 10);
        fault("fold a to;", 1, 9);
        fault("fold a to b c;", 1, 12);
        fault("root a;", 1, 6);
        fault("root a of;", 1, 9);
        fault("root of b;", 1, 8);
        fault("root a of b c d e;", 0, -1);
        fault("root a of b c d e f;", 3, 18);
        fault("root a of b c d e 5;", 1, 18);
        fault("order aba;", 2, 6);
        fault("order 5;", 1, 6);
        fault("order ab cd;", 1, 9);
        fault("order ab;order cd;", 2, 9);
        fault("order ab;order 5;", 2, 9);
    }

    private static void faultPlaces() {
        String full = Due.times("stop a;", 20);
        fault(full + "stop a;", 3, 140);
        fault(full + " fold", 3, 141);
        fault(full + "halt", 1, 140);
        fault(full + ";", 1, 140);
        fault(full + "order a;", 3, 140);
        String ordered = "order a;" + Due.times("stop a;", 19);
        fault(ordered + "order b;", 2, 141);
        fault(ordered + "stop b;", 3, 141);
        fault(ordered + "?", 1, 141);
        fault("stop a;\nstop\tb;", 1, 12);
    }
}
