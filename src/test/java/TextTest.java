/** Promises 1 to 6: a new object, the tape, the desk's text. */
public final class TextTest {
    public static void main(String[] args) {
        newObject();
        status();
        feed();
        load();
        tokens();
        lines();
        faults();
        many();
        Due.end();
    }

    private static void newObject() {
        Due.promise(1);
        SumWalker x = new SumWalker();
        Due.is("status()", x.status(), 0);
        Due.is("NONE", SumWalker.NONE, -1);
        Due.ok(x, "many(0)", x.many(0), 0);
        Due.ok(x, "many(1)", x.many(1), 100_000);
        Due.ok(x, "many(2)", x.many(2), 30);
        Due.ok(x, "many(3)", x.many(3), 0);
        Due.ok(x, "many(4)", x.many(4), 0);
        Due.is("fault(0)", x.fault(0), -1);
        Due.is("fault(1)", x.fault(1), -1);
        Due.no(x, "out(0)", x.out(0), Due.NOTHING);
        Due.no(x, "row(0)", x.row(0), Due.NO_ROW);
        Due.no(x, "undo()", x.undo(), Due.NOTHING);
    }

    private static void status() {
        Due.promise(2);
        SumWalker x = new SumWalker();
        x.row(0);
        Due.is("status()", x.status(), 2);
        Due.is("status() again", x.status(), 2);
        x.feed(0, 0, 0, 0, 0);
        Due.is("status() behind feed()", x.status(), 2);
        x.fault(0);
        x.fault(7);
        Due.is("status() behind fault()", x.status(), 2);
        x.sum(0);
        Due.is("status()", x.status(), 1);
        x.load(20);
        Due.is("status()", x.status(), 9);
        x.kind(6);
        Due.is("status()", x.status(), 0);
        x.guide(7, 0);
        Due.is("status()", x.status(), 5);
        SumWalker y = Due.desk("row a 6;");
        y.retell(0, 6);
        Due.is("status()", y.status(), 4);
        for (int i = 0; i < 6; i++) {
            y.put(5);
        }
        Due.is("status()", y.status(), 3);
    }

    private static void feed() {
        Due.promise(3);
        SumWalker x = new SumWalker();
        for (int i = 1; i <= 20; i++) {
            Due.is("feed()", x.feed(0x726F7720, 0x61203B20, 0, 0, 0), 20 * i);
        }
        Due.is("feed() of the 21st", x.feed(0, 0, 0, 0, 0), -1);
        Due.is("feed() of the 22nd", x.feed(0, 0, 0, 0, 0), -1);
        Due.no(x, "load(401)", x.load(401), Due.WRONG);
        Due.no(x, "load(400)", x.load(400), Due.FAULTY);
        Due.is("fault(1)", x.fault(1), 6);
        Due.is("feed() of an empty tape", x.feed(0, 0, 0, 0, 0), 20);
        // The highest byte of each int comes first, that of a negative one, too.
        SumWalker y = new SumWalker();
        Due.is("feed(row ab7;)", y.feed(0x726F7720, 0x6162373B, 0x20202020, 0x0A200A20, 0xFF414243), 20);
        Due.ok(y, "load(16)", y.load(16), 1);
        Due.ok(y, "row(0)", y.row(0), 7);
        y.feed(0x726F7720, 0x6162373B, 0x20202020, 0x0A200A20, 0xFF414243);
        Due.no(y, "load(17)", y.load(17), Due.FAULTY);
        Due.is("fault(0)", y.fault(0), 1);
        Due.is("fault(1)", y.fault(1), 16);
    }

    private static void load() {
        Due.promise(4);
        SumWalker x = new SumWalker();
        Due.ok(x, "load(0)", x.load(0), 0);
        Due.no(x, "load(-1)", x.load(-1), Due.WRONG);
        Due.no(x, "load(1)", x.load(1), Due.WRONG);
        Due.feed(x, "row one 220;bound 500;steps 7;law unitary;row two 1;");
        Due.no(x, "load(61)", x.load(61), Due.WRONG);
        Due.no(x, "load(-1)", x.load(-1), Due.WRONG);
        Due.ok(x, "load(52)", x.load(52), 2);
        Due.ok(x, "row(0)", x.row(0), 220);
        Due.ok(x, "row(1)", x.row(1), 1);
        Due.ok(x, "many(1)", x.many(1), 500);
        Due.ok(x, "many(2)", x.many(2), 7);
        Due.ok(x, "many(3)", x.many(3), 1);
        Due.no(x, "load(1) of an empty tape", x.load(1), Due.WRONG);
        x.put(12);
        Due.no(x, "load of a fault", Due.load(x, "row a 5; row a 6;"), Due.FAULTY);
        Due.ok(x, "many(0)", x.many(0), 3);
        Due.ok(x, "many(1)", x.many(1), 500);
        Due.ok(x, "many(4): the act is kept", x.many(4), 1);
        Due.no(x, "load(1): the tape is empty with 9, too", x.load(1), Due.WRONG);
        Due.ok(x, "load of a new desk", Due.load(x, "row b 9;"), 1);
        Due.ok(x, "many(4): acts are forgotten", x.many(4), 0);
        Due.ok(x, "many(1)", x.many(1), 100_000);
        Due.ok(x, "many(2)", x.many(2), 30);
        Due.ok(x, "many(3)", x.many(3), 0);
        Due.no(x, "undo()", x.undo(), Due.NOTHING);
        // Only the first n bytes, and the rest of the tape is gone, too.
        Due.feed(x, "row c 12;row d 13;");
        Due.ok(x, "load(9)", x.load(9), 1);
        Due.ok(x, "row(0)", x.row(0), 12);
        Due.no(x, "load(1)", x.load(1), Due.WRONG);
        Due.ok(x, "value(0, 1) of the new row", x.value(0, 1), 16);
        Due.ok(x, "load of another desk", Due.load(x, "row c 25;"), 1);
        Due.ok(x, "value(0, 1) of its row", x.value(0, 1), 6);
        Due.ok(x, "an empty desk", x.load(0), 0);
        Due.ok(x, "many(0)", x.many(0), 0);
    }

    private static void good(String text, int rows) {
        SumWalker x = new SumWalker();
        Due.ok(x, "load of '" + text + "'", Due.load(x, text), rows);
        Due.is("fault(0) of '" + text + "'", x.fault(0), 0);
        Due.is("fault(1) of '" + text + "'", x.fault(1), -1);
    }

    private static void bad(String text, int kind, int place) {
        SumWalker x = Due.desk("row keep 77; bound 5;");
        Due.no(x, "load of '" + text + "'", Due.load(x, text), Due.FAULTY);
        Due.is("fault(0) of '" + text + "'", x.fault(0), kind);
        Due.is("fault(1) of '" + text + "'", x.fault(1), place);
        Due.is("fault(2) of '" + text + "'", x.fault(2), -1);
        Due.ok(x, "many(0)", x.many(0), 1);
        Due.ok(x, "many(1)", x.many(1), 5);
        Due.ok(x, "row(0)", x.row(0), 77);
    }

    private static void tokens() {
        Due.promise(4);
        good("", 0);
        good("   \n \n", 0);
        good("row\na\n12\n;\n", 1);
        good("row a12;row b13;", 2);
        good("  row abcdefgh 999999999;", 1);
        good("row a 000000007;", 1);
        good("bound 1;bound 999999999;steps 1;steps 100;law plain;law unitary;law reduced;law bare;", 0);
        good("row rows 5;row bounds 6;row step 7;row plai 8;row plainx 9;row laws 1;", 6);
        // The letters of a name fill eight places at most, and all of them count.
        good("row aaaaaaaa 5;row aaaaaaab 6;row baaaaaaa 7;row aaaaaaa 8;row a 9;row aa 9;", 6);
        Due.is("five leading noughts", Due.desk("row a 000000007;").row(0), 7);
    }

    private static void lines() {
        Due.promise(4);
        SumWalker x = Due.desk("bound 7;law bare;steps 3;bound 9;law reduced;steps 4;");
        Due.is("latest bound", x.many(1), 9);
        Due.is("latest steps", x.many(2), 4);
        Due.is("latest law", x.many(3), 2);
        Due.is("law plain", Due.desk("law bare;law plain;").many(3), 0);
        Due.is("law bare", Due.desk("law bare;").many(3), 3);
        SumWalker y = Due.desk("row f 6;row e 5;row d 4;row c 3;row b 2;row a 1;");
        for (int r = 0; r < 6; r++) {
            Due.is("row in the order told", y.row(r), 6 - r);
        }
    }

    private static void faults() {
        Due.promise(5);
        SumWalker x = new SumWalker();
        x.load(5);
        Due.is("fault(0) behind STATUS 1", x.fault(0), -1);
        Due.is("fault(1) behind STATUS 1", x.fault(1), -1);
        x.load(0);
        Due.is("fault(0)", x.fault(0), 0);
        Due.is("fault(1)", x.fault(1), -1);
        Due.is("fault(-1)", x.fault(-1), -1);
        Due.is("fault(2)", x.fault(2), -1);
        Due.load(x, "row a 5");
        x.load(99);
        Due.is("fault(0) stays behind STATUS 1", x.fault(0), 2);
        Due.is("fault(1) stays behind STATUS 1", x.fault(1), 7);
        // 1: no TOKEN.
        bad("row a 5; Row b 6;", 1, 9);
        bad("row a\t5;", 1, 5);
        bad("row a 5,", 1, 7);
        bad("row abcdefghi 5;", 1, 4);
        bad("row a 1234567890;", 1, 6);
        bad("row a 0000000001;", 1, 6);
        bad("row a -5;", 1, 6);
        bad("abcdefghi", 1, 0);
        bad("row a 5;\u0000", 1, 8);
        bad("row \u00e9 5;", 1, 4);
        bad("row `;", 1, 4);
        bad("row {;", 1, 4);
        bad("row a /;", 1, 6);
        bad("row a :;", 1, 6);
        bad("row a 5;  #", 1, 10);
        bad("law plainlaws;", 1, 4);
        // 2: a TOKEN that can't stand there, or the text's end.
        bad("a", 2, 0);
        bad(";", 2, 0);
        bad("7", 2, 0);
        bad("plain", 2, 0);
        bad("rows 5;", 2, 0);
        bad("row", 2, 3);
        bad("row  \n ", 2, 7);
        bad("row a", 2, 5);
        bad("row a 5", 2, 7);
        bad("row a 5  ", 2, 9);
        bad("row 5 a;", 2, 4);
        bad("row ; 5", 2, 4);
        bad("row a b;", 2, 6);
        bad("row a ;", 2, 6);
        bad("row a 5 6;", 2, 8);
        bad("row a 5 row b 6;", 2, 8);
        bad("row a 5;;", 2, 8);
        bad("row row 5;", 2, 4);
        bad("row bound 5;", 2, 4);
        bad("row steps 5;", 2, 4);
        bad("row law 5;", 2, 4);
        bad("row plain 5;", 2, 4);
        bad("row unitary 5;", 2, 4);
        bad("row reduced 5;", 2, 4);
        bad("row bare 5;", 2, 4);
        bad("bound", 2, 5);
        bad("bound a;", 2, 6);
        bad("bound 5", 2, 7);
        bad("bound 5 5", 2, 8);
        bad("steps;", 2, 5);
        bad("steps 5 a", 2, 8);
        bad("law", 2, 3);
        bad("law 1;", 2, 4);
        bad("law row;", 2, 4);
        bad("law even;", 2, 4);
        bad("law plain", 2, 9);
        bad("law plain 5;", 2, 10);
        // 3: a NUMBER that can't be.
        bad("row a 0;", 3, 6);
        bad("row a 000000000;", 3, 6);
        bad("bound 0;", 3, 6);
        bad("steps 0;", 3, 6);
        bad("steps 101;", 3, 6);
        bad("row a 0 0;", 3, 6);
        // 4: a NAME that a ROW has; 5: a seventh ROW.
        bad("row a 5; row b 6; row a 7;", 4, 22);
        bad("row abcdefgh 5; row abcdefgh", 4, 20);
        String six = "row a 1;row b 1;row c 1;row d 1;row e 1;row f 1;";
        bad(six + "row g 1;", 5, 48);
        bad(six + "row a 1;", 5, 48);
        bad(six + " row", 5, 49);
        bad(six + "row 0 #", 5, 48);
        bad(six + "bound 0;", 3, 54);
        good(six + "bound 3;", 6);
    }

    private static void many() {
        Due.promise(6);
        SumWalker x = Due.desk("row a 5;row b 6;steps 9;law bare;bound 4321;");
        Due.ok(x, "many(0)", x.many(0), 2);
        Due.ok(x, "many(1)", x.many(1), 4321);
        Due.ok(x, "many(2)", x.many(2), 9);
        Due.ok(x, "many(3)", x.many(3), 3);
        Due.ok(x, "many(4)", x.many(4), 0);
        x.put(7);
        x.drop(0);
        Due.ok(x, "many(0)", x.many(0), 2);
        Due.ok(x, "many(4)", x.many(4), 2);
        Due.no(x, "many(5)", x.many(5), Due.WRONG);
        Due.no(x, "many(-1)", x.many(-1), Due.WRONG);
    }
}
