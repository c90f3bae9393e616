/** Objects that hold something of all that can be held, and all that can be seen of one but its STATUS. */
final class State {
    private static final int[] ROWS = {12, 220, 138, 25, 6, 1};

    private State() {
    }

    /** So many ROWS, four ACTS that can be undone, a FAULT, OUT if there is a ROW, and 40 bytes on the tape. */
    static SumWalker with(int rows) {
        SumWalker x = new SumWalker();
        x.rule(2, 2);
        Due.load(x, "bound 50000;steps 20;law reduced;");
        for (int r = 0; r < rows; r++) {
            x.put(ROWS[r]);
        }
        x.rule(2, 0);
        x.rule(0, 40_000);
        x.rule(1, 25);
        x.rule(1, 20);
        Due.load(x, "row a 5;row a 6;");
        x.print(0);
        Due.feed(x, "row q 28;bound 7;row z 1;");
        return x;
    }

    /** Uses the object up: ACTS are undone, and the tape is loaded. */
    static String of(SumWalker x) {
        StringBuilder seen = new StringBuilder();
        addDesk(x, seen);
        seen.append("fault ").append(x.fault(0)).append(' ').append(x.fault(1)).append("; out");
        for (int i = 0; i < 100; i++) {
            seen.append(' ').append(x.out(i));
        }
        for (int acts = x.many(4); acts > 0; acts--) {
            seen.append("; undone ").append(x.undo()).append(": ");
            for (int what = 0; what < 5; what++) {
                seen.append(x.many(what)).append(' ');
            }
            for (int r = 0; r < 6; r++) {
                seen.append(x.row(r)).append(' ');
            }
        }
        int taped = x.feed(0x20202020, 0x20202020, 0x20202020, 0x20202020, 0x20202020);
        seen.append("; tape ").append(taped).append(" load ").append(x.load(taped)).append(": ");
        addDesk(x, seen);
        return seen.toString();
    }

    private static void addDesk(SumWalker x, StringBuilder seen) {
        for (int what = 0; what < 5; what++) {
            seen.append(x.many(what)).append(' ');
        }
        for (int r = 0; r < 6; r++) {
            seen.append("row ").append(x.row(r)).append(' ').append(x.ends(r));
            for (int k = -1; k < x.value(r, -1); k++) {
                seen.append(' ').append(x.value(r, k));
            }
            seen.append("; ");
        }
    }
}
