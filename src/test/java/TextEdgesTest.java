/** Terms 1 and promises 1 to 6, sentence by sentence: the edges of the desk's text. */
public final class TextEdgesTest {
    private static final int TOP = 999_999_999;
    private static final String SIX = "row a 1;row b 2;row c 3;row d 4;row e 5;row f 6;";
    private static final String[] LINES = {"row", "bound", "steps", "law"};
    private static final String[] LAWS = {"plain", "unitary", "reduced", "bare"};

    public static void main(String[] args) {
        newObject();
        atMost400Bytes();
        nothingAtAll();
        asLongAsTheyGo();
        blanks();
        eachByte();
        words();
        numbers();
        anyNumberOfLines();
        names();
        sixRows();
        rowNumbers();
        bounds();
        steps();
        laws();
        latestTells();
        firstAlongTheText();
        leastKind();
        endOfTheText();
        feed();
        load();
        fault();
        many();
        Due.end();
    }

    private static SumWalker good(String text, int rows) {
        SumWalker x = new SumWalker();
        Due.ok(x, "load of '" + text + "'", Due.load(x, text), rows);
        Due.is("fault(0) of '" + text + "'", x.fault(0), 0);
        Due.is("fault(1) of '" + text + "'", x.fault(1), SumWalker.NONE);
        return x;
    }

    private static void bad(String text, int kind, int place) {
        SumWalker x = new SumWalker();
        Due.no(x, "load of '" + text + "'", Due.load(x, text), Due.FAULTY);
        Due.is("fault(0) of '" + text + "'", x.fault(0), kind);
        Due.is("fault(1) of '" + text + "'", x.fault(1), place);
    }

    private static void newObject() {
        Due.promise(1);
        Due.sentence("No ROWS; BOUND, STEPS, LAW as without a LINE; STATUS 0");
        SumWalker x = new SumWalker();
        Due.is("status()", x.status(), 0);
        SumWalker y = new SumWalker();
        y.load(0);
        for (int what = 0; what < 5; what++) {
            Due.ok(x, "many(" + what + ") as without a LINE", x.many(what), y.many(what));
        }
        Due.ok(x, "many(0)", x.many(0), 0);
        // The tape is empty, OUT, ACTS and FAULT are none yet.
        Due.no(x, "load(1)", x.load(1), Due.WRONG);
        Due.no(x, "out(0)", x.out(0), Due.NOTHING);
        Due.no(x, "undo()", x.undo(), Due.NOTHING);
        Due.is("fault(0)", x.fault(0), SumWalker.NONE);
        Due.is("fault(1)", x.fault(1), SumWalker.NONE);
        // One object's state is not another one's.
        x.put(12);
        x.rule(1, 3);
        Due.is("many(0) of a second object", new SumWalker().many(0), 0);
        Due.is("many(2) of a second object", new SumWalker().many(2), 30);
    }

    private static void atMost400Bytes() {
        Due.promise(0);
        Due.sentence("a TEXT of at most 400 bytes");
        String most = "steps 100;".repeat(40);
        SumWalker x = good(most, 0);
        Due.is("many(2)", x.many(2), 100);
        bad(most.substring(0, 399), 2, 399);
        bad(most.substring(0, 390) + "steps  100", 2, 400);
        bad(most.substring(0, 390) + "steps 101;", 3, 396);
        bad(most.substring(0, 390) + "steps 10;#", 1, 399);
        bad(most.substring(0, 390) + "steps 10;;", 2, 399);
        good(most.substring(0, 390) + "row q 999;", 1);
        good(" ".repeat(400), 0);
        good(" ".repeat(392) + "row a 5;", 1);
        bad("a".repeat(400), 1, 0);
        bad("row a " + "0".repeat(394), 1, 6);
        bad("row a 5" + " ".repeat(393), 2, 400);
        SumWalker y = new SumWalker();
        Due.feed(y, most);
        Due.is("feed() of a 401st byte", y.feed(0, 0, 0, 0, 0), SumWalker.NONE);
        Due.no(y, "load(401)", y.load(401), Due.WRONG);
        Due.ok(y, "load(400)", y.load(400), 0);
    }

    private static void nothingAtAll() {
        Due.promise(0);
        Due.sentence("A TEXT: {LINE}. ({ } any number of times.)");
        good("", 0);
        good(" ", 0);
        good("\n", 0);
        SumWalker x = Due.desk("row a 5;bound 7;steps 9;law bare;");
        Due.ok(x, "load(0) of an empty tape", x.load(0), 0);
        Due.ok(x, "many(0)", x.many(0), 0);
        Due.ok(x, "many(1)", x.many(1), 100_000);
        Due.ok(x, "many(2)", x.many(2), 30);
        Due.ok(x, "many(3)", x.many(3), 0);
        Due.feed(x, "row a 5;");
        Due.ok(x, "load(0) of a full one", x.load(0), 0);
        Due.no(x, "load(1): it is empty then", x.load(1), Due.WRONG);
    }

    private static void asLongAsTheyGo() {
        Due.promise(0);
        Due.sentence("TOKENS, as long as they go, between them blanks");
        Due.is("row", good("row a5;", 1).row(0), 5);
        Due.is("row", good("row\na\n5\n;\n", 1).row(0), 5);
        Due.is("bound", good("bound5;", 0).many(1), 5);
        Due.is("steps", good("steps5;", 0).many(2), 5);
        good("row a1;row b2;", 2);
        bad("rowa 5;", 2, 0);
        bad("lawplain;", 2, 0);
        bad("lawreduced;", 1, 0);
        bad("row aa1a 5;", 2, 7);
        bad("row a5 5;", 2, 7);
        bad("row a 12 34;", 2, 9);
        bad("row a 5;6;", 2, 8);
        bad("ro w a 5;", 2, 0);
        bad("row a 5 5;", 2, 8);
        bad("law pl ain;", 2, 4);
        bad("row a;5;", 2, 5);
    }

    private static void blanks() {
        Due.promise(0);
        Due.sentence("blanks (10, 32)");
        for (int sign = 0; sign < 256; sign++) {
            boolean blank = sign == 10 || sign == 32;
            boolean token = sign == ';' || sign >= 'a' && sign <= 'z' || sign >= '0' && sign <= '9';
            String text = "row a 5;" + (char) sign + "row b 6;";
            if (blank) {
                good(text, 2);
                good((char) sign + "row" + (char) sign + "a" + (char) sign + "5" + (char) sign + ";" + (char) sign, 1);
            } else if (!token) {
                bad(text, 1, 8);
            }
        }
    }

    private static void eachByte() {
        Due.promise(0);
        Due.sentence("1 no TOKEN begins there. 2 a TOKEN that can't stand there");
        for (int sign = 0; sign < 256; sign++) {
            boolean blank = sign == 10 || sign == 32;
            boolean token = sign == ';' || sign >= 'a' && sign <= 'z' || sign >= '0' && sign <= '9';
            String text = "" + (char) sign;
            if (blank) {
                good(text, 0);
            } else {
                bad(text, token ? 2 : 1, 0);
            }
        }
        for (String near : new String[] {"`", "{", "A", "Z", "@", "["}) {
            bad("row " + near + " 5;", 1, 4);
            bad("row a" + near + " 5;", 1, 5);
        }
        for (String near : new String[] {"/", ":", "-", "+", ".", ","}) {
            bad("row a " + near + ";", 1, 6);
            bad("row a 1" + near + ";", 1, 7);
        }
    }

    private static void words() {
        Due.promise(0);
        Due.sentence("WORDS (1 to 8 small letters; a longer one is no TOKEN)");
        good("row a 5;row z 6;", 2);
        good("row abcdefgh 5;row zzzzzzzz 6;", 2);
        bad("row abcdefghi 5;", 1, 4);
        bad("row zzzzzzzzz 5;", 1, 4);
        bad("row abcdefghij 5;", 1, 4);
        bad("aaaaaaaa", 2, 0);
        bad("aaaaaaaaa", 1, 0);
        bad("row a 5;aaaaaaaaa", 1, 8);
        bad("law unitarya;", 2, 4);
        bad("law unitaryab;", 1, 4);
        bad("row a abcdefghi;", 1, 6);
        bad("row a 5 abcdefgh", 2, 8);
        bad("row a 5 abcdefghi", 1, 8);
    }

    private static void numbers() {
        Due.promise(0);
        Due.sentence("NUMBERS (1 to 9 digits; a longer one is none)");
        Due.is("row", good("row a 1;", 1).row(0), 1);
        Due.is("row", good("row a 999999999;", 1).row(0), TOP);
        Due.is("row", good("row a 000000009;", 1).row(0), 9);
        Due.is("row", good("row a 100000000;", 1).row(0), 100_000_000);
        bad("row a 1000000000;", 1, 6);
        bad("row a 0000000009;", 1, 6);
        bad("row a 2147483648;", 1, 6);
        bad("row a 4294967297;", 1, 6);
        bad("row a 18446744073709551617;", 1, 6);
        bad("bound 1000000000;", 1, 6);
        bad("steps 0000000001;", 1, 6);
        bad("123456789", 2, 0);
        bad("1234567890", 1, 0);
        bad("row 123456789 5;", 2, 4);
        bad("row 1234567890 5;", 1, 4);
        bad("row a 5 1234567890", 1, 8);
        bad("law 1234567890;", 1, 4);
    }

    private static void anyNumberOfLines() {
        Due.promise(0);
        Due.sentence("A TEXT: {LINE}. ({ } any number of times.)");
        good("law bare;".repeat(44), 0);
        good("bound1;".repeat(57), 0);
        good("steps1;".repeat(57) + " ", 0);
        bad("steps1;".repeat(57) + ";", 2, 399);
        bad(";", 2, 0);
        bad("law bare;;", 2, 9);
    }

    private static void names() {
        Due.promise(0);
        Due.sentence("NAMES are WORDS but row, bound, steps, law and the LAWS");
        for (String[] barred : new String[][] {LINES, LAWS}) {
            for (String name : barred) {
                bad("row " + name + " 5;", 2, 4);
                good("row " + name + "x 5;", 1);
                good("row x" + name + " 5;", 1);
                good("row " + name.substring(1) + " 5;", 1);
                good("row " + name.substring(0, name.length() - 1) + " 5;", 1);
            }
        }
        bad("row 5 5;", 2, 4);
        bad("row ; 5;", 2, 4);
        Due.sentence("no two ROWS have one");
        bad("row a 5;row a 6;", 4, 12);
        bad("row a 5;row b 6;row b 7;", 4, 20);
        bad("row a 1;row b 2;row c 3;row d 4;row e 5;row a 6;", 4, 44);
        bad("row a 1;row b 2;row c 3;row d 4;row e 5;row e 6;", 4, 44);
        bad("row abcdefgh 5;row abcdefgh 6;", 4, 19);
        good("row abcdefgh 5;row abcdefgi 6;row bbcdefgh 7;row abcdefg 8;", 4);
        good("row a 5;row aa 6;row aaa 7;row aaaaaaaa 8;", 4);
        // The NAMES of another TEXT don't count.
        SumWalker x = Due.desk("row a 5;");
        Due.ok(x, "the same NAME in a new DESK", Due.load(x, "row a 6;row b 7;"), 2);
        Due.no(x, "a FAULT behind a NAME", Due.load(x, "row c 6;row d"), Due.FAULTY);
        Due.ok(x, "the same NAME then", Due.load(x, "row d 6;row c 7;"), 2);
    }

    private static void sixRows() {
        Due.promise(0);
        Due.sentence("At most 6 ROWS, numbered from 0 on as they are told");
        SumWalker x = good(SIX, 6);
        for (int r = 0; r < 6; r++) {
            Due.ok(x, "row(" + r + ")", x.row(r), r + 1);
        }
        Due.no(x, "row(6)", x.row(6), Due.NO_ROW);
        Due.no(x, "row(-1)", x.row(-1), Due.NO_ROW);
        SumWalker none = good("", 0);
        Due.no(none, "row(0) of none", none.row(0), Due.NO_ROW);
        good(SIX + "bound 7;law bare;steps 4;", 6);
        Due.sentence("5 a seventh ROW (at the LINE's WORD)");
        bad(SIX + "row g 7;", 5, 48);
        bad(SIX + "  row g 7;", 5, 50);
        bad(SIX + "law bare;row g 7;", 5, 57);
        bad(SIX + "row a 7;", 5, 48);
        bad(SIX + "row g 0;", 5, 48);
        bad(SIX + "row", 5, 48);
        bad(SIX + "rowg", 2, 48);
    }

    private static void rowNumbers() {
        Due.promise(0);
        Due.sentence("row: 1 to 999,999,999; 3 a NUMBER that can't be");
        bad("row a 0;", 3, 6);
        bad("row a 000000000;", 3, 6);
        Due.is("row(0)", good("row a 1;", 1).row(0), 1);
        Due.is("row(0)", good("row a 999999999;", 1).row(0), TOP);
        Due.is("row(0) above BOUND", good("bound 1;row a 999999999;", 1).row(0), TOP);
    }

    private static void bounds() {
        Due.promise(0);
        Due.sentence("BOUND: 1 to 999,999,999 (100,000 without)");
        bad("bound 0;", 3, 6);
        Due.is("many(1)", good("bound 1;", 0).many(1), 1);
        Due.is("many(1)", good("bound 999999999;", 0).many(1), TOP);
        Due.is("many(1)", good("row a 5;steps 5;law bare;", 1).many(1), 100_000);
        bad("bound;", 2, 5);
        bad("bound plain;", 2, 6);
    }

    private static void steps() {
        Due.promise(0);
        Due.sentence("STEPS: 1 to 100 (30 without)");
        bad("steps 0;", 3, 6);
        Due.is("many(2)", good("steps 1;", 0).many(2), 1);
        Due.is("many(2)", good("steps 100;", 0).many(2), 100);
        Due.is("many(2)", good("steps 000000100;", 0).many(2), 100);
        bad("steps 101;", 3, 6);
        bad("steps 000000101;", 3, 6);
        bad("steps 999999999;", 3, 6);
        Due.is("many(2)", good("row a 5;bound 5;law bare;", 1).many(2), 30);
    }

    private static void laws() {
        Due.promise(0);
        Due.sentence("LAW: 0 plain, 1 unitary, 2 reduced, 3 bare (plain without)");
        for (int law = 0; law < 4; law++) {
            Due.is("many(3)", good("law " + LAWS[law] + ";", 0).many(3), law);
        }
        Due.is("many(3)", good("row a 5;bound 5;steps 5;", 1).many(3), 0);
        bad("law 0;", 2, 4);
        bad("law 3;", 2, 4);
        bad("law law;", 2, 4);
        bad("law plains;", 2, 4);
        bad("law plai;", 2, 4);
        bad("law ;", 2, 4);
        bad("plain;", 2, 0);
    }

    private static void latestTells() {
        Due.promise(0);
        Due.sentence("Of these three the latest LINE tells");
        SumWalker x = good("bound 5;steps 5;law bare;bound 6;law unitary;steps 6;row a 12;law plain;", 1);
        Due.is("many(1)", x.many(1), 6);
        Due.is("many(2)", x.many(2), 6);
        Due.is("many(3)", x.many(3), 0);
        SumWalker y = good("row a 12;bound 5;steps 1;bound 999999999;steps 100;", 1);
        Due.is("a ROW ahead of the LINES goes by them, too", y.value(0, -1), 8);
    }

    private static void firstAlongTheText() {
        Due.promise(0);
        Due.sentence("of several the first along the text");
        bad("row a 0;#", 3, 6);
        bad("#;row a 0;", 1, 0);
        bad("row a 5 5;row a 0;", 2, 8);
        bad("row a 5;row a 0;#", 4, 12);
        bad("row a 0;row a 5;", 3, 6);
        bad(SIX + "row row 0", 5, 48);
        bad("steps 101 #", 3, 6);
        bad("steps 101", 3, 6);
        bad("row a 5;abcdefghi;;", 1, 8);
        bad("; abcdefghi", 2, 0);
        bad("row a 0;" + SIX, 3, 6);
        bad(SIX + "steps 0;row g 7;", 3, 54);
    }

    private static void leastKind() {
        Due.promise(0);
        Due.sentence("of one TOKEN the least kind");
        // What is no TOKEN can't stand there, or be a NUMBER or a NAME, either.
        bad("row # 5;", 1, 4);
        bad("row a #;", 1, 6);
        bad("row a 5#", 1, 7);
        bad("# a 5;", 1, 0);
        bad("row a 0000000000;", 1, 6);
        bad("steps 1000000000;", 1, 6);
        bad("law abcdefghi;", 1, 4);
        bad("row a 5;row #", 1, 12);
        bad(SIX + "#", 1, 48);
        bad(SIX + "rowrowrow", 1, 48);
        // A 0 where no NUMBER can stand is 2, not 3.
        bad("0;", 2, 0);
        bad("row 0 0;", 2, 4);
        bad("row a 5 0;", 2, 8);
        bad("law 0;", 2, 4);
    }

    private static void endOfTheText() {
        Due.promise(0);
        Due.sentence("2 a TOKEN that can't stand there (the end of the text: its length)");
        for (String text : new String[] {"row", "row a", "row a 5", "bound", "bound 5", "steps", "steps 5", "law",
            "law plain"}) {
            bad(text, 2, text.length());
            bad(text + " \n ", 2, text.length() + 3);
            bad(SIX.substring(0, 8) + "row q 7;" + text.replace(" a", " z"), 2, 16 + text.length());
        }
        // The text ends where load() says, whatever stands on the tape behind it.
        SumWalker x = new SumWalker();
        Due.feed(x, "row a 55;row b 6;");
        Due.no(x, "load(8)", x.load(8), Due.FAULTY);
        Due.is("fault(0)", x.fault(0), 2);
        Due.is("fault(1)", x.fault(1), 8);
        Due.feed(x, "row abcdefghi 55;");
        Due.no(x, "load(12): a WORD cut to eight", x.load(12), Due.FAULTY);
        Due.is("fault(0)", x.fault(0), 2);
        Due.is("fault(1)", x.fault(1), 12);
        Due.feed(x, "bound 1234567890;");
        Due.no(x, "load(15): a NUMBER cut to nine", x.load(15), Due.FAULTY);
        Due.is("fault(0)", x.fault(0), 2);
        Due.is("fault(1)", x.fault(1), 15);
    }

    private static void feed() {
        Due.promise(3);
        Due.sentence("Twenty bytes come behind those on the tape, the highest of each int first");
        for (int place = 0; place < 20; place++) {
            for (int sign : new int[] {'#', 0, 127, 128, 255}) {
                StringBuilder text = new StringBuilder(" ".repeat(20));
                text.setCharAt(place, (char) sign);
                bad(text.toString(), 1, place);
                bad(" ".repeat(20) + text, 1, 20 + place);
            }
        }
        SumWalker x = new SumWalker();
        x.feed(-1, Integer.MIN_VALUE, Integer.MAX_VALUE, 0, 1);
        Due.no(x, "load(20)", x.load(20), Due.FAULTY);
        Due.is("fault(1)", x.fault(1), 0);
        Due.sentence("how many it has; NONE if there would be more than 400");
        for (int had = 20; had <= 400; had += 20) {
            Due.is("feed()", x.feed(0x20202020, 0x20202020, 0x20202020, 0x20202020, 0x20202020), had);
        }
        for (int i = 0; i < 3; i++) {
            Due.is("feed() of a full tape", x.feed(-1, -1, -1, -1, -1), SumWalker.NONE);
        }
        Due.ok(x, "load(400): what was refused is not on it", x.load(400), 0);
        Due.is("feed() of an empty tape", x.feed(0, 0, 0, 0, 0), 20);
        Due.sentence("status(), feed(), fault() have none");
        x.row(9);
        x.feed(0, 0, 0, 0, 0);
        Due.is("status() behind a feed()", x.status(), Due.NO_ROW);
        SumWalker y = new SumWalker();
        y.sum(0);
        for (int i = 0; i < 21; i++) {
            y.feed(0, 0, 0, 0, 0);
        }
        Due.is("status() behind a refused feed()", y.status(), Due.WRONG);
        y.many(0);
        y.feed(0, 0, 0, 0, 0);
        Due.is("status() behind a refused feed()", y.status(), 0);
    }

    private static void load() {
        Due.promise(4);
        Due.sentence("1: n below 0, above what the tape has; 9");
        SumWalker x = new SumWalker();
        for (int n : new int[] {1, -1, 400, Integer.MIN_VALUE, Integer.MAX_VALUE}) {
            Due.no(x, "load(" + n + ") of an empty tape", x.load(n), Due.WRONG);
        }
        Due.feed(x, "row a 5;            ");
        for (int n : new int[] {21, -1, 400, 401, Integer.MIN_VALUE, Integer.MAX_VALUE}) {
            Due.no(x, "load(" + n + ") of twenty bytes", x.load(n), Due.WRONG);
        }
        Due.ok(x, "load(20): a refused one left the tape", x.load(20), 1);
        Due.sentence("which is empty then, also with 9");
        Due.no(x, "load(1) behind STATUS 0", x.load(1), Due.WRONG);
        Due.feed(x, "row a;");
        Due.no(x, "load(6)", x.load(6), Due.FAULTY);
        Due.no(x, "load(1) behind STATUS 9", x.load(1), Due.WRONG);
        Due.is("feed() behind it", x.feed(0, 0, 0, 0, 0), 20);
        Due.sentence("With another STATUS than 0 a call changes nothing else (but load() with 9: the tape and what "
            + "fault() tells)");
        SumWalker y = State.with(5);
        Due.no(y, "load(6)", y.load(6), Due.FAULTY);
        SumWalker z = State.with(5);
        for (int what = 0; what < 5; what++) {
            Due.is("many(" + what + ")", y.many(what), z.many(what));
        }
        for (int r = 0; r < 5; r++) {
            Due.is("row(" + r + ")", y.row(r), z.row(r));
            Due.is("value(" + r + ", -1)", y.value(r, -1), z.value(r, -1));
        }
        Due.is("out(0)", y.out(0), z.out(0));
        Due.is("undo()", y.undo(), z.undo());
        Due.sentence("how many ROWS");
        for (int rows = 0; rows <= 6; rows++) {
            good(SIX.substring(0, 8 * rows), rows);
        }
    }

    private static void fault() {
        Due.promise(5);
        Due.sentence("NONE for others, and ahead of any");
        SumWalker x = new SumWalker();
        int[] others = {-1, 2, Integer.MIN_VALUE, Integer.MAX_VALUE};
        Due.is("fault(0)", x.fault(0), SumWalker.NONE);
        Due.is("fault(1)", x.fault(1), SumWalker.NONE);
        for (int what : others) {
            Due.is("fault(" + what + ")", x.fault(what), SumWalker.NONE);
        }
        x.load(-1);
        Due.is("fault(0) behind a refused load()", x.fault(0), SumWalker.NONE);
        Due.is("fault(1) behind a refused load()", x.fault(1), SumWalker.NONE);
        Due.sentence("Of the latest load() with STATUS 0 or 9");
        x.load(0);
        Due.is("fault(0)", x.fault(0), 0);
        Due.is("fault(1)", x.fault(1), SumWalker.NONE);
        Due.load(x, "steps 0;");
        Due.is("fault(0)", x.fault(0), 3);
        Due.is("fault(1)", x.fault(1), 6);
        x.load(1);
        Due.is("fault(0) behind STATUS 1", x.fault(0), 3);
        Due.is("fault(1) behind STATUS 1", x.fault(1), 6);
        for (int what : others) {
            Due.is("fault(" + what + ")", x.fault(what), SumWalker.NONE);
        }
        Due.load(x, "#");
        Due.is("fault(0) of a later one", x.fault(0), 1);
        Due.is("fault(1) of a later one", x.fault(1), 0);
        x.load(0);
        Due.is("fault(0) without one again", x.fault(0), 0);
        Due.is("fault(1) without one again", x.fault(1), SumWalker.NONE);
        Due.sentence("status(), feed(), fault() have none");
        x.put(0);
        x.fault(0);
        x.fault(9);
        Due.is("status() behind fault()", x.status(), Due.WRONG);
    }

    private static void many() {
        Due.promise(6);
        Due.sentence("ACTS that can be undone (4)");
        SumWalker x = new SumWalker();
        for (int n = 1; n <= 12; n++) {
            x.rule(0, n);
            Due.ok(x, "many(4)", x.many(4), Math.min(8, n));
        }
        for (int left = 7; left >= 0; left--) {
            x.undo();
            Due.ok(x, "many(4)", x.many(4), left);
        }
        x.undo();
        Due.ok(x, "many(4) behind a refused undo()", x.many(4), 0);
        Due.sentence("ROWS (what 0)");
        for (int rows = 0; rows <= 6; rows++) {
            Due.ok(x, "many(0)", x.many(0), rows);
            x.put(7);
        }
        Due.ok(x, "many(0) behind a seventh", x.many(0), 6);
    }
}
