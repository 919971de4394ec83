/** Boundary cases of a new object and the TAPE (promises 1 to 3), sentence by sentence. */
final class TapeBoundaries {
    private static final int NOTHING = -2000000000;

    private final Sentences s;

    TapeBoundaries(Sentences s) {
        this.s = s;
    }

    void all() {
        lastCall();
        nothingYet();
        nothingAnsweredYet();
        twentyBytes();
        highestFirst();
        behindTheTape();
        howManyItHas();
        noneCome();
        firstBytesAlone();
        notSoMany();
        nothingHappens();
    }

    private void lastCall() {
        s.of("What it is", "An object is used for at most 512 calls after it has been made");
        WordPlaces x = new WordPlaces();
        for (int call = 1; call < 512; call += 4) {
            s.is("call " + call, x.feed(0x61206220, 0x63000000, 0, 0, 0), 20);
            s.is("call " + (call + 1), x.end(5), 5);
            s.is("call " + (call + 2), call == 1 ? x.line(1) : x.right(1, 0), call == 1 ? 0 : 3);
            s.is("call " + (call + 3), x.word(1, 2, 2), 2);
        }
    }

    private void nothingYet() {
        s.of("Promise 1", "No LINES, no RULES");
        WordPlaces x = new WordPlaces();
        for (int what = 0; what <= 8; what++) {
            s.is("count(" + what + ")", x.count(what), 0);
        }
        for (int e = 0; e < 2; e++) {
            for (int what = 0; what <= 2; what++) {
                s.is("edition(" + e + ", " + what + ")", x.edition(e, what), 0);
            }
            s.is("word(" + e + ", 0, 0)", x.word(e, 0, 0), NOTHING);
            s.is("right(" + e + ", 0)", x.right(e, 0), -2);
            s.is("stands(" + e + ", 0, 0)", x.stands(e, 0, 0), -1);
            s.is("pack(" + e + ", 0, 0)", x.pack(e, 0, 0), -2);
            s.is("room(" + e + ")", x.room(e), 0);
            s.is("shares(" + e + ", 8)", x.shares(e, 8), 0);
            s.is("print(" + e + ", 5)", x.print(e, 5), 0);
            s.is("rank(" + e + ")", x.rank(e), 0);
        }
        s.is("forms()", x.forms(), 0);
        s.is("form(0, 0)", x.form(0, 0), NOTHING);
        s.is("ordered(0)", x.ordered(0), -1);
        s.is("alike()", x.alike(), 0);
        s.is("matched(0)", x.matched(0), -1);
        s.is("slip(0, 0)", x.slip(0, 0), -2);
        s.is("hand(0, 2)", x.hand(0, 2), 0);
        s.is("begins()", x.begins(), 0);
        x = Due.book("b a");
        s.are("no fold, no order", Due.allOrdered(x), "a b");
        s.is("no stop", x.form(0, 3), 0);
        s.is("no root", x.form(0, 4), -1);
    }

    private void nothingAnsweredYet() {
        s.of("Promise 1", "No LINES, no RULES.");
        WordPlaces x = new WordPlaces();
        s.is("answer(0, 0)", x.answer(0, 0), NOTHING);
        s.is("share(0)", x.share(0), -1);
        s.is("ranked(0, 0)", x.ranked(0, 0), NOTHING);
        s.is("begun(0)", x.begun(0), -1);
        for (int f = 0; f < 600; f += 599) {
            s.is("page(" + f + ")", x.page(f), -1);
        }
        for (int k = 0; k < 3; k++) {
            s.is("back(" + k + ")", x.back(k), -6);
        }
        for (int slot = 0; slot < 4; slot++) {
            s.is("write(" + slot + ", 0, 0)", x.write(slot, 0, 0), -6);
        }
        for (int h = 0; h < 4; h++) {
            s.is("hand(" + h + ", 0)", x.hand(h, 0), 0);
            s.is("copied", x.copied(h, (h + 1) % 4), 0);
        }
        s.is("NONE", WordPlaces.NONE, -1);
    }

    /** The FORM of the TAPE's letters. */
    private static String taken(WordPlaces x) {
        x.line(0);
        return Due.letters(x, 0);
    }

    private void twentyBytes() {
        s.of("Promise 2", "Twenty bytes come behind the TAPE, four of each number");
        WordPlaces x = new WordPlaces();
        x.feed(0x61626364, 0x65666768, 0x696a6b6c, 0x6d6e6f70, 0x71727374);
        s.is("count(5)", x.count(5), 20);
        s.are("all five numbers", taken(x), "abcdefghijklmnopqrst");
        for (int i = 0; i < 5; i++) {
            int[] n = {0x61616161, 0x61616161, 0x61616161, 0x61616161, 0x61616161};
            n[i] = -1;
            x.feed(n[0], n[1], n[2], n[3], n[4]);
            s.is("bytes of 255 in number " + i, x.line(0), -4);
            x.feed(n[0], n[1], n[2], n[3], n[4]);
            x.end(4 * i);
            s.is("and none ahead of it", x.line(0), i + 1);
        }
    }

    private void highestFirst() {
        s.of("Promise 2", "the highest first");
        for (int i = 0; i < 4; i++) {
            WordPlaces x = new WordPlaces();
            x.feed(0x80808080 ^ (0x80 ^ 'a' + i) << 8 * (3 - i), 0, 0, 0, 0);
            x.end(i + 1);
            s.is("begins() of a number with a letter in byte " + i, x.begins(), 0);
            Due.line(x, 0, "" + (char) ('a' + i) + " z");
            x.feed(0x80808080 ^ (0x80 ^ 'a' + i) << 8 * (3 - i), 0, 0, 0, 0);
            x.end(i + 1);
            s.is("the letter is in it", x.begins(), 1);
            x.feed(0x80808080 ^ (0x80 ^ 'a' + i) << 8 * (3 - i), 0, 0, 0, 0);
            x.end(i);
            s.is("and not ahead of it", x.begins(), 2);
        }
    }

    private void behindTheTape() {
        s.of("Promise 2", "come behind the TAPE");
        WordPlaces x = new WordPlaces();
        x.feed(0x61620000, 0, 0, 0, 0);
        x.end(2);
        s.is("behind two bytes", x.feed(0x63646566, 0x20202020, 0x20202020, 0x20202020, 0x20202067), 22);
        s.is("line(0)", x.line(0), 0);
        s.are("FORMS", Due.allForms(x), "abcdef g");
    }

    private void howManyItHas() {
        s.of("Promise 2", "how many it has");
        WordPlaces x = new WordPlaces();
        for (int i = 1; i <= 20; i++) {
            s.is("feed " + i, x.feed(0, 0, 0, 0, 0), 20 * i);
            s.is("count(5)", x.count(5), 20 * i);
        }
        x.end(7);
        s.is("feed behind seven", x.feed(0, 0, 0, 0, 0), 27);
    }

    private void noneCome() {
        s.of("Promise 2", "NONE, and none come, if it would have more than 400");
        for (int ahead = 378; ahead <= 400; ahead++) {
            WordPlaces x = Due.put(new WordPlaces(), Due.times(" ", ahead));
            int want = ahead <= 380 ? ahead + 20 : -1;
            s.is("feed behind " + ahead, x.feed(0x3b3b3b3b, 0, 0, 0, 0), want);
            s.is("count(5) behind " + ahead, x.count(5), want == -1 ? ahead : want);
            s.is("rules() behind " + ahead, x.rules(), want == -1 ? 0 : -4);
            s.is("the first that came", x.fault(1), want == -1 ? -1 : ahead);
        }
        WordPlaces x = Due.put(new WordPlaces(), Due.times(" ", 393) + "stop a;");
        s.is("feed behind 400", x.feed(0, 0, 0, 0, 0), -1);
        s.is("all 400 are as they were", x.rules(), 1);
        s.is("the TAPE takes some again", x.feed(0, 0, 0, 0, 0), 20);
    }

    private void firstBytesAlone() {
        s.of("Promise 3", "The TAPE has its first n bytes alone: n");
        for (int n = 0; n <= 20; n++) {
            WordPlaces x = Due.put(new WordPlaces(), "abcdefghijklmnopqrst");
            s.is("end(" + n + ")", x.end(n), n);
            s.is("count(5)", x.count(5), n);
            s.are("its first " + n, taken(x), "abcdefghijklmnopqrst".substring(0, n));
        }
        WordPlaces x = Due.put(new WordPlaces(), "abcdef");
        x.end(3);
        Due.put(x, "xyz");
        s.are("those behind are gone", taken(x), "abcxyz");
        Due.put(x, Due.times(" ", 400));
        s.is("end(400) of 400", x.end(400), 400);
        s.is("end(0) of 400", x.end(0), 0);
        s.is("end(0) of an empty TAPE", x.end(0), 0);
        s.is("rules() sees none behind", ended("stop a;stop b;", 7).rules(), 1);
        s.is("nor the rest of a WORD", ended("stop ab;", 6).rules(), -4);
        x = ended("a near 51", 8);
        s.is("ask() sees none behind", x.ask(0), -4);
        s.is("nor the rest of a number", x.fault(0), 1);
        x = ended("abc", 2);
        Due.line(x, 0, "");
        s.is("line() sees none behind", x.form(0, 0), 2);
        x = Due.book("a ab");
        s.is("slip() sees none behind", cut(x, "ab", 1).slip(0, 0), 1);
        s.is("rank() sees none behind", cut(x, "ab", 1).rank(0), 1);
        s.is("begins() sees none behind", cut(x, "ab", 1).begins(), 2);
    }

    private static WordPlaces ended(String text, int n) {
        return cut(new WordPlaces(), text, n);
    }

    private static WordPlaces cut(WordPlaces x, String text, int n) {
        Due.put(x, text).end(n);
        return x;
    }

    private void notSoMany() {
        s.of("Promise 3", "if it has not so many, or n is below 0");
        for (int size : new int[] {0, 1, 3, 20, 399, 400}) {
            WordPlaces x = Due.put(new WordPlaces(), Due.times("a", size));
            for (int n : Sentences.beyond(size + 1)) {
                s.is("end(" + n + ") of " + size, x.end(n), -1);
            }
        }
        WordPlaces x = Due.put(new WordPlaces(), "abcdef");
        x.end(3);
        s.is("what is gone does not come back", x.end(4), -1);
    }

    private void nothingHappens() {
        s.of("Promise 3", "NONE, and nothing happens");
        WordPlaces x = Due.put(new WordPlaces(), "abc");
        x.end(4);
        x.end(-1);
        x.end(-3);
        s.is("count(5)", x.count(5), 3);
        s.are("its bytes", taken(x), "abc");
    }
}
