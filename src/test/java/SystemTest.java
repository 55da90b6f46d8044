/** What the system does (promises 7, 8 and 12). */
public final class SystemTest {
    private static final int BAD = AccountMachine.BAD, RIGHTS = AccountMachine.RIGHTS, ILLEGAL = AccountMachine.ILLEGAL;

    public static void main(String[] args) {
        units();
        transfer();
        transferIllegal();
        assign();
        allocate();
        sequence();
        Bench.end();
    }

    private static void units() {
        Bench.part("units");
        for (int kind = 0; kind < 4; kind++) {
            Bench b = new Bench();
            Bench.due("no unit for " + kind, b.run(0, 0, kind), AccountMachine.METER);
            Bench.due("one unit for " + kind, b.run(1, 0, kind), AccountMachine.METER);
            Bench.due("units()", b.x.units(), 0);
            Bench.due("two units for " + kind, b.run(2, 0, kind), BAD);
            Bench.due("units()", b.x.units(), 0);
            Bench.due("three units for " + kind, b.run(3, 0, kind), BAD);
            Bench.due("units()", b.x.units(), 1);
            Bench.due("kind 3 with slots", b.run(3, 0, 4 * kind + 3, 0, 3, 1, 3), BAD);
            Bench.due("kind 3 below 0", b.run(3, 0, -1, 0, 3, 1, 3), BAD);
        }
    }

    private static void transfer() {
        Bench.part("TRANSFER");
        Bench b = new Bench();
        Bench.due("no slot", b.run(2, 0, 4), BAD);
        Bench.due("one slot", b.run(2, 0, 4, 0, 3), BAD);
        Bench.due("one account", b.run(2, 0, 4, 0, 3, 0, 3), BAD);
        Bench.due("v = -1", b.run(2, 0, -4, 0, 3, 1, 3), BAD);
        Bench.due("the least v", b.run(2, 0, Integer.MIN_VALUE, 0, 3, 1, 3), BAD);
        for (int first = 0; first < 4; first++) {
            for (int second = 0; second < 4; second++) {
                int want = first == 3 && second >= 2 ? 0 : RIGHTS;
                Bench.due("marks " + first + ", " + second, b.run(2, 0, 4, 0, first, 1, second), want);
            }
        }
        b.dueAccount(0, 98, 0, 0);
        b.dueAccount(1, 102, 0, 0);
        Bench.due("marks from other slots", b.run(2, 0, 8, 0, 0, 1, 0, 0, 3, 1, 2), 0);
        Bench.due("marks from two slots", b.run(2, 0, 8, 0, 1, 1, 2, 0, 2), 0);
        b.dueAccount(0, 94, 0, 0);
        b.dueAccount(1, 106, 0, 0);
        Bench.due("v = 0", b.run(2, 0, 0, 0, 3, 1, 2), 0);
        b.dueAccount(0, 94, 0, 0);
    }

    private static void transferIllegal() {
        Bench.part("TRANSFER that is ILLEGAL");
        Bench b = new Bench();
        Bench.due("too much", b.run(2, 0, 4 * 101, 0, 3, 1, 2), ILLEGAL);
        Bench.due("far too much", b.run(2, 0, Integer.MAX_VALUE - 3, 0, 3, 1, 2), ILLEGAL);
        Bench.due("all", b.run(2, 0, 4 * 100, 0, 3, 1, 2), 0);
        b.dueAccount(0, 0, 0, 0);
        b.dueAccount(1, 200, 0, 0);
        b.own(2, 1, 0);
        b.own(3, 0, 1);
        b.own(4, 3, 4);
        Bench.due("from a program's account", b.run(2, 0, 4, 2, 3, 1, 2), ILLEGAL);
        Bench.due("none from a program's account", b.run(2, 0, 0, 2, 3, 1, 2), ILLEGAL);
        Bench.due("from one with a size", b.run(2, 0, 4, 3, 3, 1, 2), ILLEGAL);
        Bench.due("to a program's account", b.run(2, 0, 4, 1, 3, 2, 2), 0);
        Bench.due("to one with a size", b.run(2, 0, 8, 1, 3, 4, 2), 0);
        b.dueAccount(2, 101, 1, 0);
        b.dueAccount(4, 102, 3, 4);
        b.dueAccount(1, 197, 0, 0);
    }

    private static void assign() {
        Bench.part("ASSIGN");
        Bench b = new Bench();
        Bench.due("no slot", b.run(2, 0, 4 * 1 + 1), BAD);
        Bench.due("v = 0", b.run(2, 0, 1, 0, 3), BAD);
        Bench.due("v = 4", b.run(2, 0, 4 * 4 + 1, 0, 3), BAD);
        Bench.due("v = -1", b.run(2, 0, -3, 0, 3), BAD);
        for (int v = 1; v <= 3; v++) {
            for (int marks = 0; marks < 3; marks++) {
                Bench.due("marks " + marks, b.run(2, 0, 4 * v + 1, v, marks), RIGHTS);
            }
            Bench.due("v = " + v, b.run(2, 0, 4 * v + 1, v, 3), 0);
            b.dueAccount(v, 100, v, 0);
            Bench.due("again", b.run(2, 0, 4 * v + 1, v, 3), ILLEGAL);
        }
        Bench.due("by two slots", b.run(2, 0, 4 * 2 + 1, 5, 1, 5, 2), 0);
        b.dueAccount(5, 100, 2, 0);
        Bench.due("only slot 0", b.run(2, 0, 4 * 2 + 1, 6, 3, 7, 3), 0);
        b.dueAccount(6, 100, 2, 0);
        b.dueAccount(7, 100, 0, 0);
    }

    private static void allocate() {
        Bench.part("ALLOCATE");
        Bench b = new Bench();
        Bench.due("no slot", b.run(2, 0, 4 * 1 + 2), BAD);
        Bench.due("v = 5", b.run(2, 0, 4 * 5 + 2, 0, 3), BAD);
        Bench.due("v = -1", b.run(2, 0, -2, 0, 3), BAD);
        for (int v = 0; v <= 4; v++) {
            for (int marks = 0; marks < 3; marks++) {
                Bench.due("marks " + marks, b.run(2, 0, 4 * v + 2, v, marks), RIGHTS);
            }
            Bench.due("v = " + v, b.run(2, 0, 4 * v + 2, v, 3), 0);
            b.dueAccount(v, 100, 0, v);
            Bench.due("again", b.run(2, 0, 4 * 2 + 2, v, 3), v == 0 ? 0 : ILLEGAL);
        }
        b.own(5, 1, 0);
        Bench.due("a program's account", b.run(2, 0, 4 * 2 + 2, 5, 3), ILLEGAL);
        // Words that were undone with their account leave nothing behind.
        b.program(1, "SET 5 7", "STORE 1 5 5", "END");
        b.order(0, 4 * 2 + 2, 6, 3);
        b.order(0, 4 * 1 + 1, 6, 3);
        b.order(1, 0, 6, 2);
        Bench.due("run with too few units", b.x.run(6), 200 + AccountMachine.METER);
        b.order(0, 4 * 2 + 2, 6, 3);
        b.order(0, 4 * 1 + 1, 6, 3);
        Bench.due("run", b.x.run(9), 0);
        Bench.due("data(6, 0)", b.x.data(6, 0), 0);
    }

    private static void sequence() {
        Bench.part("the sequence of what goes wrong");
        Bench b = new Bench();
        b.own(2, 1, 1);
        Bench.due("BAD before RIGHTS", b.run(2, 0, -4, 0, 0, 1, 0), BAD);
        Bench.due("RIGHTS before ILLEGAL", b.run(2, 0, 4, 2, 0, 1, 2), RIGHTS);
        Bench.due("BAD before RIGHTS", b.run(2, 0, 1, 2, 0), BAD);
        Bench.due("RIGHTS before ILLEGAL", b.run(2, 0, 5, 2, 1), RIGHTS);
        Bench.due("BAD before RIGHTS", b.run(2, 0, 4 * 5 + 2, 2, 0), BAD);
        Bench.due("RIGHTS before ILLEGAL", b.run(2, 0, 4 * 4 + 2, 2, 2), RIGHTS);
    }
}
