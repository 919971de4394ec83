/** Boundary cases of RULES, their FAULTS and TOKENS (TERMS RULES and FAULTS, promises 4 and 5), sentence by sentence. */
final class RulesBoundaries {
    private static final String[] NO_WORDS = {"5", ";", "(", ")", "\"", "!", "A", ".", "-"};
    private static final String[] NO_WORDS_OF_ONE = {"5", ";", "(", ")", "\"", "!", "A", "ab", "to"};
    private static final String[] NO_RULES = {"5", ";", "(", "!", "A", "a", "to", "of", "fol", "folds", "near"};
    private static final String TWENTY = "abcdefghijklmnopqrst";
    private static final String ALL = "abcdefghijklmnopqrstuvwxyz";

    private final Sentences s;

    RulesBoundaries(Sentences s) {
        this.s = s;
    }

    void all() {
        twentyRules();
        kindsOfRules();
        oneLetter();
        foldedOnce();
        wordsAreForms();
        foldedAtEachPlace();
        firstTwentyLetters();
        stopsAndRoots();
        lettersFirst();
        orderedForms();
        withoutOrder();
        firstByPlace();
        placeOfTokensAndEnd();
        leastOfOnePlace();
        noToken();
        foldedAlready();
        secondOrder();
        letterTwice();
        oneRuleTooMany();
        oneWordTooMany();
        longestTokens();
        rulesInPlaceOfOthers();
        thoseAheadStay();
        faultOfTheLatest();
        faultOfNothingElse();
    }

    private void taken(String text, int n) {
        WordPlaces x = new WordPlaces();
        s.is("rules " + text, Due.rules(x, text), n);
        s.is("FAULT of " + text, x.fault(0), 0);
        s.is("place of " + text, x.fault(1), -1);
    }

    private void refused(String text, int fault, int place) {
        WordPlaces x = new WordPlaces();
        s.is("rules " + text, Due.rules(x, text), -4);
        s.is("FAULT of " + text, x.fault(0), fault);
        s.is("place of " + text, x.fault(1), place);
    }

    private void twentyRules() {
        s.of("RULES", "RULES: {RULE ;}, 20 at most");
        taken("", 0);
        taken(" \n", 0);
        for (int n : new int[] {1, 2, 19, 20}) {
            taken(Due.times("stop a;", n), n);
        }
        for (int n : new int[] {21, 22, 30}) {
            refused(Due.times("stop a;", n), 3, 140);
        }
        WordPlaces x = Due.book(ALL.replaceAll(".", "$0 "));
        StringBuilder folds = new StringBuilder();
        StringBuilder stops = new StringBuilder();
        StringBuilder roots = new StringBuilder();
        for (int i = 0; i < 20; i++) {
            folds.append("fold ").append(ALL.charAt(i)).append(" to z;");
            stops.append("stop ").append(ALL.charAt(i)).append(';');
            roots.append("root a of ").append(ALL.charAt(i)).append(" z z z;");
        }
        s.is("20 folds", Due.rules(x, folds.toString()), 20);
        s.is("count(8)", x.count(8), 20);
        s.are("all of them fold", Due.allForms(x), "u v w x y z");
        s.is("20 stops", Due.rules(x, stops.toString()), 20);
        s.is("count(3)", x.count(3), 20);
        s.is("the last stops", x.form(19, 3), 1);
        s.is("no 21st", x.form(20, 3), 0);
        s.is("20 roots of four", Due.rules(x, roots.toString()), 20);
        s.is("count(4)", x.count(4), 20);
        s.is("the last one's", x.form(19, 4), 19);
        s.is("the first one's last", x.form(25, 4), 0);
    }

    /** Each TOKEN in place of one that is due, and the end in place of each but the first. */
    private void standing(String[] good, String[][] wrong) {
        StringBuilder ahead = new StringBuilder();
        for (int i = 0; i < good.length; i++) {
            for (String other : wrong[i]) {
                refused(ahead + other + " " + String.join(" ", good), 1, ahead.length());
            }
            if (i > 0) {
                refused(ahead.toString(), 1, ahead.length());
            }
            ahead.append(good[i]).append(i % 2 == 0 ? " " : " \n ");
        }
        taken(ahead.toString(), 1);
    }

    private void kindsOfRules() {
        s.of("RULES", "RULE: fold L to L | stop WORD | root WORD of WORD {WORD} | order LETTERS");
        String[] ends = {"5", "a", "stop", "(", ")", "\"", "!"};
        String[] endsOfWords = {"5", "(", ")", "\"", "!"};
        standing(new String[] {"fold", "a", "to", "b", ";"}, new String[][] {NO_RULES, NO_WORDS_OF_ONE,
            {"5", ";", "t", "too", "of", "a"}, NO_WORDS_OF_ONE, ends});
        standing(new String[] {"stop", "stop", ";"}, new String[][] {NO_RULES, NO_WORDS, ends});
        standing(new String[] {"root", "of", "of", "of", ";"}, new String[][] {NO_RULES, NO_WORDS,
            {"5", ";", "o", "off", "to", "a"}, NO_WORDS, endsOfWords});
        standing(new String[] {"root", "a", "of", "b", "c", "d", "e", ";"}, new String[][] {NO_RULES, NO_WORDS,
            {"5", ";", "o", "off", "to", "a"}, NO_WORDS, endsOfWords, endsOfWords, endsOfWords, endsOfWords});
        standing(new String[] {"order", "stop", ";"}, new String[][] {NO_RULES, NO_WORDS, ends});
    }

    private void oneLetter() {
        s.of("RULES", "L: a word of one letter");
        for (int i = 0; i < 26; i++) {
            taken("fold " + ALL.charAt(i) + " to " + ALL.charAt(25 - i) + ";", 1);
        }
        refused("fold aa to b;", 1, 5);
        refused("fold a to bb;", 1, 10);
        refused("fold ; to b;", 1, 5);
        refused("fold ` to b;", 1, 5);
        refused("fold a to {;", 1, 10);
    }

    private void foldedOnce() {
        s.of("RULES", "Folded is each letter once, as all folds tell");
        for (String rules : new String[] {"fold a to b;fold b to c;fold c to a;", "fold c to a;fold b to c;fold a to b;"}) {
            WordPlaces x = Due.book("a", "b", "c", "abc", "aaabbbcccabcabcabcab");
            Due.rules(x, rules);
            s.are("FORMS by " + rules, Due.allForms(x), "a b bbbcccaaabcabcabcabc bca c");
        }
        WordPlaces x = Due.book("az za");
        Due.rules(x, "fold a to z;fold z to a;");
        s.are("the first letter and the last", Due.allForms(x), "az za");
        s.is("they changed", x.word(0, 0, 0), 1);
        Due.rules(x, "fold a to a;");
        s.are("a letter folded to itself", Due.allForms(x), "az za");
        Due.rules(x, "fold a to b;");
        s.are("b is none of them", Due.allForms(x), "bz zb");
    }

    private void wordsAreForms() {
        s.of("RULES", "WORDS in RULES, ASKS are FORMS, too (folded");
        WordPlaces x = Due.book("va ua vb ub vc uc vd ud");
        Due.rules(x, "stop va;root ub of uc;root vc of vd;fold v to u;");
        s.are("FORMS", Due.allForms(x), "ua ub uc ud");
        s.is("a STOP told ahead of the fold", x.form(0, 3), 1);
        s.is("a FORM behind of", x.form(2, 4), 0);
        s.is("one told ahead of the fold", x.form(3, 4), 1);
        s.is("a WORD of an ASK", Due.ask(x, 0, "vb"), 2);
        s.is("a STOP in an ASK", Due.ask(x, 0, "va"), 0);
        s.is("a root in an ASK", Due.ask(x, 0, "root vb"), 4);
        s.is("a root told ahead of the fold", Due.ask(x, 0, "root uc"), 4);
        s.is("WORDS between \" \"", Due.ask(x, 0, "\"va ub vb\""), 1);
        x = Due.book("xv yv zv uv");
        String roots = Due.times("root a of yv xv zv a;", 16) + "root v of xv yv zv uv;fold v to w;";
        s.is("17 roots of four and a fold", Due.rules(x, roots), 18);
        for (int f = 0; f < 4; f++) {
            s.is("the ROOT of " + Due.letters(x, f), x.form(f, 4), f == 0 ? 16 : 0);
        }
    }

    private void foldedAtEachPlace() {
        s.of("RULES", "are FORMS, too (folded, the first 20 letters)");
        for (int i = 0; i < 20; i++) {
            String told = Due.times("a", i) + "v" + Due.times("a", 19 - i);
            String due = told.replace('v', 'u');
            WordPlaces x = Due.book(told, due, "b");
            Due.rules(x, "stop " + told + ";root " + told + " of b " + told + ";fold v to u;");
            s.are("FORMS with letter " + i + " folded", Due.allForms(x), i == 0 ? "b " + due : due + " b");
            int f = Due.formOf(x, due);
            s.is("a STOP", x.form(f, 3), 1);
            s.is("one behind of", x.form(f, 4), 0);
            for (String word : new String[] {told, due}) {
                s.is("root " + word, Due.ask(x, 0, "root " + word), 3);
                s.is("between \" \" " + word, Due.ask(x, 0, "\"" + word + "\""), 2);
                s.is("rank of " + word, Due.put(x, word).rank(0), 2);
                s.is("begins of " + word, Due.put(x, word).begins(), 1);
                s.is("slip of " + word, Due.slip(x, 0, 0, word), 1);
            }
            Due.rules(x, "fold v to u;");
            s.is("ask " + told, Due.ask(x, 0, told), 2);
            s.is("ask " + due, Due.ask(x, 0, due), 2);
        }
    }

    private void firstTwentyLetters() {
        s.of("RULES", "folded, the first 20 letters)");
        for (int more = 0; more < 3; more++) {
            String told = TWENTY + "xyz".substring(0, more);
            WordPlaces x = Due.book(TWENTY + "uv", TWENTY.substring(0, 19));
            Due.rules(x, "stop " + told + ";root " + told + " of " + told + ";");
            s.is("a STOP of " + told.length(), x.form(1, 3), 1);
            s.is("behind of one of " + told.length(), x.form(1, 4), 0);
            s.is("that of 19 is no STOP", x.form(0, 3), 0);
            s.is("that of 19 has no ROOT", x.form(0, 4), -1);
            s.is("a root of " + told.length(), Due.ask(x, 0, "root " + told), 1);
            s.is("between \" \" one of " + told.length(), Due.ask(x, 0, "\"" + told + "\""), 1);
            x.rules();
            s.is("an ASK of " + told.length(), Due.ask(x, 0, told), 1);
            s.is("an ASK of 19", Due.ask(x, 0, TWENTY.substring(0, 19)), 1);
        }
        WordPlaces x = Due.book(TWENTY);
        Due.rules(x, "stop " + TWENTY.substring(0, 19) + ";root a of " + TWENTY.substring(0, 19) + "u;");
        s.is("a STOP of the first 19", x.form(0, 3), 0);
        s.is("one unlike in the 20th", x.form(0, 4), -1);
        s.is("an ASK of the first 19", Due.ask(x, 0, TWENTY.substring(0, 19)), 0);
        s.is("a RULE of a long WORD", Due.rules(x, "stop " + Due.times("a", 394) + ";"), 1);
    }

    private void stopsAndRoots() {
        s.of("RULES", "A FORM that is a STOP; those behind of (four at most) are of the ROOT");
        WordPlaces x = Due.book("a b c d e f");
        Due.rules(x, "stop a;root f of b c d e;root e of a b;");
        s.is("a is a STOP", x.form(0, 3), 1);
        s.is("the second ROOT's", x.form(0, 4), 1);
        for (int f = 1; f <= 4; f++) {
            s.is("the first ROOT's " + f, x.form(f, 4), 0);
            s.is("no STOP " + f, x.form(f, 3), 0);
        }
        s.is("f is not behind of", x.form(5, 4), -1);
        Due.rules(x, "root a of a;");
        s.is("one behind its own of", x.form(0, 4), 0);
        s.is("no STOP now", x.form(0, 3), 0);
    }

    private void lettersFirst() {
        s.of("RULES", "LETTERS: a word of different letters: by the ORDER these come first, as they stand there, the other"
            + " letters behind them by alphabet");
        for (String letters : new String[] {"a", "z", "za", "qw", "mlk", "bcdefghijklmnopqrstuvwxyz",
            "zyxwvutsrqponmlkjihgfedcba", ALL}) {
            WordPlaces x = Due.book("a b c d e f g h i j k l m", "n o p q r s t u v w x y z");
            s.is("order " + letters, Due.rules(x, "order " + letters + ";"), 1);
            String row = letters + ALL.replaceAll("[" + letters + "]", "");
            s.are("FORMS by " + letters, Due.allOrdered(x), row.replaceAll("(?<=.)(?=.)", " "));
        }
    }

    private void orderedForms() {
        s.of("RULES", "FORMS by the ORDER letter by letter, a row that ends ahead");
        WordPlaces x = Due.book("a ab b ba bb bab baa", "bac");
        Due.rules(x, "order cb;");
        s.are("FORMS", Due.allOrdered(x), "b bb ba bac bab baa a ab");
        String nine = Due.times("a", 9);
        x = Due.book(nine, nine + "b", nine + "c", nine + "cb", nine + "ca", nine + "ba");
        Due.line(x, 1, TWENTY + " " + TWENTY.substring(0, 19) + "z");
        Due.line(x, 1, TWENTY.substring(0, 19) + " z");
        Due.rules(x, "order zcba;");
        String nineteen = TWENTY.substring(0, 19);
        s.are("rows of ten letters and of twenty", Due.allOrdered(x), "z " + nineteen + " " + nineteen + "z " + TWENTY + " "
            + nine + " " + nine + "c " + nine + "cb " + nine + "ca " + nine + "b " + nine + "ba");
    }

    private void withoutOrder() {
        s.of("RULES", "Without: by alphabet");
        WordPlaces x = Due.book("z zz za a aa az b");
        s.are("without RULES", Due.allOrdered(x), "a aa az b z za zz");
        Due.rules(x, "order z;");
        s.are("with an order", Due.allOrdered(x), "z zz za a az aa b");
        Due.rules(x, "stop a;");
        s.are("by RULES without one", Due.allOrdered(x), "a aa az b z za zz");
    }

    private void firstByPlace() {
        s.of("FAULTS", "FAULTS of RULES, ASKS, the first by its place");
        refused("stop 5;order aa;", 1, 5);
        refused("order aa;stop 5;", 2, 6);
        refused("root a of b c d e f;stop 5;", 3, 18);
        refused("root a of b c d e f 5;", 3, 18);
        refused("fold a to b;fold a to 5;", 2, 17);
        refused("fold a to b;fold a 5;", 2, 17);
        refused("order a;order aa;", 2, 8);
        refused("order aa 5;", 2, 6);
        refused(Due.times("stop a;", 20) + "stop 5;", 3, 140);
        refused(Due.times("stop a;", 20) + "order aa;", 3, 140);
        askRefused("a near 51 5", 2, 7);
        askRefused("a or 5 near 51 b", 1, 5);
        askRefused("(((((((near", 3, 6);
        askRefused(Due.times("a or ", 30) + "\"5", 3, 150);
    }

    private void askRefused(String text, int fault, int place) {
        WordPlaces x = Due.book("a b");
        s.is("ask " + text, Due.ask(x, 0, text), -4);
        s.is("FAULT of " + text, x.fault(0), fault);
        s.is("place of " + text, x.fault(1), place);
    }

    private void placeOfTokensAndEnd() {
        s.of("FAULTS", "(a TOKEN's first byte; the end's)");
        refused("stops a;", 1, 0);
        refused("  \n stops a;", 1, 4);
        refused("stop a;\n\n  orders", 1, 11);
        refused("order  abca;", 2, 7);
        askRefused("a  near   51  b", 2, 10);
        askRefused(" 12345", 1, 1);
        refused("stop", 1, 4);
        refused("stop a", 1, 6);
        refused("stop a ", 1, 7);
        refused("stop a \n ", 1, 9);
        askRefused("", 1, 0);
        askRefused(" ", 1, 1);
        askRefused("a or", 1, 4);
        askRefused("a or\n ", 1, 6);
        refused("stop a" + Due.times(" ", 394), 1, 400);
        askRefused("\"" + Due.times("a", 399), 1, 400);
        askRefused(Due.times(" ", 399) + ";", 1, 399);
    }

    private void leastOfOnePlace() {
        s.of("FAULTS", ", of one place the least:");
        String full = Due.times("stop a;", 20);
        for (String first : new String[] {"halt", "a", "5", "51", ";", "(", "!", "folds"}) {
            refused(full + first, 1, 140);
        }
        refused("order a;" + Due.times("stop a;", 19) + "order b;", 2, 141);
        refused("order a;" + Due.times("stop a;", 19) + "fold b to c;", 3, 141);
        refused("order a;" + Due.times("stop a;", 18) + "order b;", 2, 134);
        refused("root a of b c d e 51", 1, 18);
        refused("stop 51;", 1, 5);
        String units = Due.times("a or ", 30);
        for (String first : new String[] {"near", "or", "5", "51", ")", ";", "!", ""}) {
            askRefused(units + first, 1, 150);
        }
        askRefused("51", 1, 0);
        askRefused("a 51", 1, 2);
        askRefused("a near 5 51", 1, 9);
        askRefused("((((((a(", 1, 7);
    }

    private void noToken() {
        s.of("FAULTS", "1 a TOKEN that is none, or can't stand there");
        for (int b = 0; b < 256; b++) {
            String sign = "" + (char) b;
            String text = "stop" + sign + "a;";
            String ask = "a or" + sign + "a";
            if (b == 32 || b == 10) {
                taken(text, 1);
                s.is("ask with byte " + b, Due.ask(new WordPlaces(), 0, ask), 0);
            } else if (b >= 'a' && b <= 'z') {
                refused(text, 1, 0);
                askRefused(ask, 1, 2);
            } else {
                refused(text, 1, 4);
                if (b != '"' && b != '(') {
                    askRefused(ask, 1, 4);
                }
            }
        }
        refused("stop a;!", 1, 7);
        askRefused("a!", 1, 1);
        askRefused("a near 5! b", 1, 8);
        askRefused("\"a!\"", 1, 2);
    }

    private void foldedAlready() {
        s.of("FAULTS", "2 a letter folded already");
        refused("fold a to b;fold a to c;", 2, 17);
        refused("fold a to b;fold a to b;", 2, 17);
        refused("fold a to a;fold a to b;", 2, 17);
        refused("fold z to b;stop q;fold z to z;", 2, 24);
        taken("fold a to b;fold b to a;", 2);
        taken("fold a to c;fold b to c;", 2);
        taken("fold a to b;fold b to b;", 2);
        WordPlaces x = new WordPlaces();
        Due.rules(x, "fold a to b;");
        s.is("by the RULES ahead it is not folded", Due.rules(x, "fold a to c;"), 1);
        Due.rules(x, "fold d to e;5");
        s.is("nor by those refused", Due.rules(x, "fold d to c;"), 1);
    }

    private void secondOrder() {
        s.of("FAULTS", "a second order");
        refused("order a;order b;", 2, 8);
        refused("order a;order", 2, 8);
        refused("order a;stop b;  order 5", 2, 17);
        taken("order a;stop order;", 2);
        WordPlaces x = new WordPlaces();
        Due.rules(x, "order a;");
        s.is("an order in place of the one ahead", Due.rules(x, "order b;"), 1);
        Due.rules(x, "order c;5");
        s.is("and behind RULES refused", Due.rules(x, "order b;"), 1);
    }

    private void letterTwice() {
        s.of("FAULTS", "a letter twice in LETTERS");
        refused("order aa;", 2, 6);
        refused("order abca;", 2, 6);
        refused("order zbcz;", 2, 6);
        refused("order " + ALL + "z;", 2, 6);
        refused("order " + ALL + ALL + ";", 2, 6);
        taken("order " + ALL + ";", 1);
    }

    private void oneRuleTooMany() {
        s.of("FAULTS", "3 a 21st RULE");
        for (String rule : new String[] {"fold b to c;", "stop b;", "root b of c;", "order b;", "fold", "root b", "order aa"}) {
            refused(Due.times("stop a;", 20) + " " + rule, 3, 141);
        }
        taken(Due.times("stop a;", 20) + " \n", 20);
    }

    private void oneWordTooMany() {
        s.of("FAULTS", "a fifth WORD behind of, at its first TOKEN");
        for (String word : new String[] {"f", "of", "root", "b", "fold"}) {
            refused("root a of b c d e " + word + ";", 3, 18);
            refused("root a of b c d e " + word, 3, 18);
        }
        taken("root a of b c d e;", 1);
        taken("root a of b c d e;root a of b c d e;", 2);
        refused("root a of b c d e;root a of b c d e f;", 3, 36);
    }

    private void longestTokens() {
        s.of("FAULTS", "TOKENS, blanks (32, 10) aside, the longest: words (a .. z), numbers (digits), signs ; ( ) \" .");
        taken("stop a;stop b;", 2);
        taken("\n stop\na\n;\n\n", 1);
        refused("st op a;", 1, 0);
        refused("stopa;", 1, 0);
        refused("fold a tob;", 1, 7);
        WordPlaces x = Due.book("a b", "c d");
        for (String text : new String[] {"a near1 b", "a near 1b", "a\nnear\n1\nb", "a near 01 b", "a near 1\"b\"",
            "a near 1(b)", "\"a\"near 1(b)", "(a)near 1 b", "\"a\nb\""}) {
            s.is("ask " + text, Due.ask(x, 0, text), 1);
        }
        askRefused("a near 1 0 b", 1, 9);
        askRefused("a near 1 00", 1, 9);
        askRefused("a near 100 b", 2, 7);
        askRefused("an ear 1 b", 1, 3);
        askRefused("a nea r 1 b", 1, 2);
        askRefused("a or `", 1, 5);
        askRefused("a or {", 1, 5);
        askRefused("a near / b", 1, 7);
        askRefused("a near : b", 1, 7);
        askRefused("a.", 1, 1);
        for (int digit = 1; digit <= 9; digit++) {
            s.is("near " + digit, Due.ask(x, 0, "a near " + digit + " b"), 1);
        }
    }

    private void rulesInPlaceOfOthers() {
        s.of("Promise 4", "The TAPE (empty then) is the RULES (in place of others): how many");
        WordPlaces x = Due.book("a b");
        s.is("one of each", Due.rules(x, "fold b to c;stop a;root b of a;order cba;"), 4);
        s.is("the TAPE is empty", x.count(5), 0);
        s.are("ORDER", Due.allOrdered(x), "c a");
        s.is("others", Due.rules(x, "stop b;"), 1);
        s.is("count(2)", x.count(2), 1);
        s.is("count(3)", x.count(3), 1);
        s.is("no ROOT", x.count(4), 0);
        s.is("no fold", x.count(8), 0);
        s.are("no ORDER", Due.allOrdered(x), "a b");
        s.is("a is no STOP", x.form(0, 3), 0);
        s.is("b is one", x.form(1, 3), 1);
        s.is("a has no ROOT", x.form(0, 4), -1);
        s.is("none", x.rules(), 0);
        s.is("count(2)", x.count(2), 0);
        s.is("b is no STOP", x.form(1, 3), 0);
    }

    private void thoseAheadStay() {
        s.of("Promise 4", "-4: a FAULT (those ahead stay)");
        WordPlaces x = Due.book("a b d");
        Due.rules(x, "fold b to c;stop a;root b of a;order dca;");
        String[] refused = {"fold c to a;fold d to a;stop d;root d of d a;order acd;5", "stop d", "order acd;order",
            Due.times("stop d;", 21), "fold c to a;fold c to d;", "root a of d d d d d;", "5"};
        for (String text : refused) {
            s.is("rules " + text, Due.rules(x, text), -4);
            s.is("the TAPE is empty", x.count(5), 0);
            s.is("count(2)", x.count(2), 4);
            s.is("count(3)", x.count(3), 1);
            s.is("count(4)", x.count(4), 1);
            s.is("count(8)", x.count(8), 1);
            s.are("FORMS by the ORDER", Due.allOrdered(x), "d c a");
            s.is("a is a STOP", x.form(0, 3), 1);
            s.is("d is none", x.form(2, 3), 0);
            s.is("the ROOT of a", x.form(0, 4), 0);
            s.is("d has none", x.form(2, 4), -1);
        }
    }

    private void faultOfTheLatest() {
        s.of("Promise 5", "Of the latest rules(), ask(), what 0: its FAULT, 0 without, 1: its place (NONE without)");
        WordPlaces x = Due.book("a");
        faultIs(x, Due.rules(x, "stop 5;"), -4, 1, 5);
        faultIs(x, Due.ask(x, 0, "a near 51 a"), -4, 2, 7);
        faultIs(x, Due.rules(x, Due.times("stop b;", 21)), -4, 3, 140);
        faultIs(x, Due.ask(x, 0, "a"), 1, 0, -1);
        faultIs(x, Due.ask(x, 1, ""), -4, 1, 0);
        faultIs(x, x.rules(), 0, 0, -1);
        faultIs(x, Due.ask(x, 1, "zz"), 0, 0, -1);
        faultIs(x, Due.rules(x, "order aa;"), -4, 2, 6);
        Due.line(x, 0, "5");
        x.begins();
        faultIs(x, -4, -4, 2, 6);
    }

    private void faultIs(WordPlaces x, int answer, int due, int fault, int place) {
        s.is("rules() or ask()", answer, due);
        s.is("fault(0)", x.fault(0), fault);
        s.is("fault(1)", x.fault(1), place);
    }

    private void faultOfNothingElse() {
        s.of("Promise 5", "NONE for another what, and ahead of any (what 1)");
        WordPlaces x = new WordPlaces();
        for (int turn = 0; turn < 2; turn++) {
            for (int what : Sentences.beyond(2)) {
                s.is("fault(" + what + ")", x.fault(what), -1);
            }
            if (turn == 0) {
                s.is("fault(1) ahead of any", x.fault(1), -1);
                s.is("fault(0) ahead of any", x.fault(0), 0);
            }
            Due.rules(x, "stop 5;");
        }
    }
}
