/**
 * One test for each sentence of the terms on the system, on rent and on undoing that names a boundary case, on both of
 * its sides.
 */
public final class SystemEdgesTest {
    private static final int METER = AccountMachine.METER, BAD = AccountMachine.BAD, RIGHTS = AccountMachine.RIGHTS;
    private static final int ILLEGAL = AccountMachine.ILLEGAL, RENT = 300 + AccountMachine.RENT;
    private static final int LEAST = Integer.MIN_VALUE, MOST = Integer.MAX_VALUE;
    private static final int TRANSFER = 0, ASSIGN = 1, ALLOCATE = 2;

    public static void main(String[] args) {
        units();
        arguments();
        transferBad();
        transferRights();
        transferIllegal();
        assign();
        allocate();
        sequence();
        rent();
        undoing();
        Bench.end();
    }

    private static void units() {
        Bench.part("the system takes 2 units (METER, and none is left, if there are fewer)");
        for (int kind = TRANSFER; kind <= ALLOCATE; kind++) {
            for (int units = 0; units <= 3; units++) {
                Bench b = new Bench();
                int got = b.run(units, 0, 4 + kind, 0, 3, 1, 2);
                Bench.due("kind " + kind + " with " + units, got, units < 2 ? METER : 0);
                Bench.due("units()", b.x.units(), Math.max(0, units - 2));
                got = b.run(units, 0, 3, 0, 3, 1, 2);
                Bench.due("BAD with " + units, got, units < 2 ? METER : BAD);
                Bench.due("units()", b.x.units(), Math.max(0, units - 2));
            }
        }
        for (int units = 0; units <= 7; units++) {
            Bench b = new Bench();
            for (int i = 0; i < 3; i++) {
                b.order(0, 4, 0, 3, 1, 2);
            }
            Bench.due("three with " + units, b.x.run(units), units < 6 ? METER + 100 * (units / 2) : 0);
            Bench.due("units()", b.x.units(), Math.max(0, units - 6));
            b.dueAccount(0, units < 6 ? 100 : 97, 0, 0);
        }
    }

    private static void arguments() {
        Bench.part("by the argument's lowest 2 bits, with v, the argument shifted right by 2; 3: BAD");
        Bench b = new Bench();
        for (int v : new int[] {0, 1, 2, 3, -1, MOST >> 2, LEAST >> 2}) {
            Bench.due("kind 3 with v = " + v, b.run(2, 0, 4 * v + 3, 0, 3, 1, 3), BAD);
        }
        // Of each kind with v = 3: what it does tells which it was.
        Bench.due("TRANSFER", b.run(2, 0, 12, 0, 3, 1, 3), 0);
        b.dueAccount(0, 97, 0, 0);
        Bench.due("ALLOCATE", b.run(2, 0, 14, 0, 3, 1, 3), 0);
        b.dueAccount(0, 97, 0, 3);
        Bench.due("ASSIGN", b.run(2, 0, 13, 0, 3, 1, 3), 0);
        b.dueAccount(0, 97, 3, 3);
        b.dueAccount(1, 103, 0, 0);
    }

    private static void transferBad() {
        Bench.part("TRANSFER: BAD: fewer than two slots");
        Bench b = new Bench();
        Bench.due("no slot", b.run(2, 0, 4), BAD);
        Bench.due("one slot", b.run(2, 0, 4, 0, 3), BAD);
        Bench.due("two slots", b.run(2, 0, 4, 0, 3, 1, 3), 0);
        Bench.due("four slots", b.run(2, 0, 4, 0, 3, 1, 3, 2, 3, 3, 3), 0);
        b.dueAccount(0, 98, 0, 0);
        b.dueAccount(1, 102, 0, 0);
        b.dueAccount(2, 100, 0, 0);
        Bench.part("TRANSFER: BAD: v below 0");
        for (int v : new int[] {-1, -2, LEAST >> 2}) {
            Bench.due("v = " + v, b.run(2, 0, 4 * v, 0, 3, 1, 3), BAD);
        }
        Bench.due("v = 0", b.run(2, 0, 0, 0, 3, 1, 3), 0);
        b.dueAccount(0, 98, 0, 0);
        Bench.part("TRANSFER: BAD: the accounts of slots 0 and 1 the same");
        Bench.due("0 and 0", b.run(2, 0, 4, 0, 3, 0, 3), BAD);
        Bench.due("none of it, 0 and 0", b.run(2, 0, 0, 0, 3, 0, 3), BAD);
        Bench.due("0, 0 and 1", b.run(2, 0, 4, 0, 3, 0, 3, 1, 3), BAD);
        Bench.due("0, 1 and 0", b.run(2, 0, 4, 0, 3, 1, 3, 0, 3), 0);
        Bench.due("7 and 6", b.run(2, 0, 4, 7, 3, 6, 3), 0);
        b.dueAccount(0, 97, 0, 0);
        b.dueAccount(6, 101, 0, 0);
        b.dueAccount(7, 99, 0, 0);
    }

    private static void transferRights() {
        Bench.part("TRANSFER: RIGHTS: the first is not signed or not writable, or the second not writable");
        for (int first = 0; first < 4; first++) {
            for (int second = 0; second < 4; second++) {
                Bench b = new Bench();
                int want = first == 3 && second >= 2 ? 0 : RIGHTS;
                Bench.due("marks " + first + " and " + second, b.run(2, 0, 4, 0, first, 1, second), want);
                b.dueAccount(0, want == 0 ? 99 : 100, 0, 0);
                Bench.due("v = 0", b.run(2, 0, 0, 0, first, 1, second), want);
                want = second >= 2 ? 0 : RIGHTS;
                int got = b.run(2, 0, 4, 0, first, 1, 0, 0, 3 & ~first, 1, second);
                Bench.due("marks from other slots", got, want);
            }
        }
    }

    private static void transferIllegal() {
        Bench.part("TRANSFER: ILLEGAL: its balance is less than v");
        Bench b = new Bench();
        Bench.due("v = 101", b.run(2, 0, 4 * 101, 0, 3, 1, 2), ILLEGAL);
        Bench.due("the most", b.run(2, 0, MOST & ~3, 0, 3, 1, 2), ILLEGAL);
        Bench.due("1000000", b.run(2, 0, 4000000, 0, 3, 1, 2), ILLEGAL);
        b.dueAccount(0, 100, 0, 0);
        Bench.due("v = 100", b.run(2, 0, 4 * 100, 0, 3, 1, 2), 0);
        b.dueAccount(0, 0, 0, 0);
        b.dueAccount(1, 200, 0, 0);
        Bench.due("v = 1 of 0", b.run(2, 0, 4, 0, 3, 1, 2), ILLEGAL);
        Bench.due("v = 0 of 0", b.run(2, 0, 0, 0, 3, 1, 2), 0);
        allInOneAccount();
        Bench.part("TRANSFER: ILLEGAL: the first one's owner is not 0, or its size not 0");
        for (int owner = 0; owner <= 3; owner++) {
            for (int size = 0; size <= 4; size++) {
                Bench c = new Bench();
                c.own(5, owner, size);
                int want = owner == 0 && size == 0 ? 0 : ILLEGAL;
                Bench.due("from owner " + owner + ", size " + size, c.run(2, 0, 4, 5, 3, 6, 2), want);
                Bench.due("v = 0", c.run(2, 0, 0, 5, 3, 6, 2), want);
                Bench.due("to owner " + owner + ", size " + size, c.run(2, 0, 4, 7, 3, 5, 2), 0);
                c.dueAccount(5, want == 0 ? 100 : 101, owner, size);
            }
        }
    }

    /** 800, all that there is: no balance can be nearer to the 1000000 that a TRANSFER must not go above. */
    private static void allInOneAccount() {
        Bench b = new Bench();
        for (int a = 1; a < 8; a++) {
            Bench.due("all of " + a, b.run(2, 0, 4 * 100, a, 3, 0, 2), 0);
        }
        b.dueAccount(0, 800, 0, 0);
        Bench.due("801", b.run(2, 0, 4 * 801, 0, 3, 7, 2), ILLEGAL);
        Bench.due("800", b.run(2, 0, 4 * 800, 0, 3, 7, 2), 0);
        b.dueAccount(7, 800, 0, 0);
    }

    private static void assign() {
        Bench.part("ASSIGN: BAD: no slot, or v is not 1 .. 3");
        Bench b = new Bench();
        for (int v = 1; v <= 3; v++) {
            Bench.due("no slot, v = " + v, b.run(2, 0, 4 * v + ASSIGN), BAD);
        }
        for (int v : new int[] {0, 4, 5, -1, MOST >> 2, LEAST >> 2}) {
            Bench.due("v = " + v, b.run(2, 0, 4 * v + ASSIGN, 0, 3), BAD);
        }
        Bench.part("ASSIGN: RIGHTS: not signed or not writable. ILLEGAL: its owner is not 0");
        for (int v = 1; v <= 3; v++) {
            for (int marks = 0; marks < 3; marks++) {
                Bench.due("marks " + marks, b.run(2, 0, 4 * v + ASSIGN, v, marks, 0, 3), RIGHTS);
            }
            Bench.due("v = " + v, b.run(2, 0, 4 * v + ASSIGN, v, 3, 0, 0), 0);
            b.dueAccount(v, 100, v, 0);
            for (int next = 1; next <= 3; next++) {
                Bench.due(next + " behind " + v, b.run(2, 0, 4 * next + ASSIGN, v, 3), ILLEGAL);
            }
            b.dueAccount(0, 100, 0, 0);
        }
        Bench.due("marks from two slots", b.run(2, 0, 4 + ASSIGN, 4, 2, 4, 1), 0);
        b.own(5, 0, 4);
        Bench.due("one with a size", b.run(2, 0, 4 + ASSIGN, 5, 3), 0);
        b.dueAccount(5, 100, 1, 4);
        // An owner that was given back may be given again.
        b.program(1, "SET 5 0", "STORE 1 2 5", "END");
        Bench.due("given back", b.run(9, 1, 0, 5, 2), 0);
        Bench.due("given again", b.run(2, 0, 12 + ASSIGN, 5, 3), 0);
        b.dueAccount(5, 100, 3, 4);
    }

    private static void allocate() {
        Bench.part("ALLOCATE: BAD: no slot, or v is not 0 .. 4");
        Bench b = new Bench();
        for (int v = 0; v <= 4; v++) {
            Bench.due("no slot, v = " + v, b.run(2, 0, 4 * v + ALLOCATE), BAD);
        }
        for (int v : new int[] {5, 6, -1, -2, (MOST >> 2) - 1, LEAST >> 2}) {
            Bench.due("v = " + v, b.run(2, 0, 4 * v + ALLOCATE, 0, 3), BAD);
        }
        Bench.part("ALLOCATE: RIGHTS: as with 1. ILLEGAL: its size is not 0");
        for (int v = 0; v <= 4; v++) {
            for (int marks = 0; marks < 3; marks++) {
                Bench.due("marks " + marks, b.run(2, 0, 4 * v + ALLOCATE, v, marks, 7, 3), RIGHTS);
            }
            Bench.due("v = " + v, b.run(2, 0, 4 * v + ALLOCATE, v, 3, 7, 0), 0);
            b.dueAccount(v, 100, 0, v);
            Bench.due("0 behind " + v, b.run(2, 0, ALLOCATE, v, 3), v == 0 ? 0 : ILLEGAL);
            Bench.due("4 behind " + v, b.run(2, 0, 16 + ALLOCATE, v, 3), v == 0 ? 0 : ILLEGAL);
            b.dueAccount(v, 100, 0, v == 0 ? 4 : v);
        }
        b.dueAccount(7, 100, 0, 0);
        Bench.due("marks from two slots", b.run(2, 0, 4 + ALLOCATE, 6, 1, 6, 2), 0);
        Bench.part("ALLOCATE: ILLEGAL: its owner is not 0");
        for (int owner = 0; owner <= 3; owner++) {
            Bench c = new Bench();
            c.own(5, owner, 0);
            Bench.due("owner " + owner, c.run(2, 0, 8 + ALLOCATE, 5, 3), owner == 0 ? 0 : ILLEGAL);
            c.dueAccount(5, 100, owner, owner == 0 ? 2 : 0);
        }
        dataAreZero();
    }

    private static void dataAreZero() {
        Bench.part("ALLOCATE: the size v then, with data 0");
        Bench b = new Bench();
        b.program(1, "SET 5 7", "STORE 1 5 5", "STORE 1 8 5", "COPY 0 3", "END");
        b.order(0, 16 + ALLOCATE, 3, 3);
        b.order(0, 4 + ASSIGN, 3, 3);
        b.order(1, 0, 3, 2);
        Bench.due("words that are written", b.x.run(20), 0);
        Bench.due("data(3, 3)", b.x.data(3, 3), 7);
        // The same for account 4, but undone: nothing of it is left when it is allocated again.
        b.program(2, invokeAllButTheLast());
        Bench.due("undone behind handing back", b.run(90, 2, 0, 4, 3), AccountMachine.FAILED);
        b.dueAccount(4, 100, 0, 0);
        Bench.due("again", b.run(2, 0, 16 + ALLOCATE, 4, 3), 0);
        for (int i = 0; i < 4; i++) {
            Bench.due("data(4, " + i + ")", b.x.data(4, i), 0);
        }
    }

    /** A program that has account 4 allocated, assigned and written, and fails then. */
    private static String[] invokeAllButTheLast() {
        return new String[] {"SET 1 0", "SET 2 28", "SET 3 18", "INVOKE", "SET 3 5", "INVOKE", "SET 1 1", "SET 3 0",
            "INVOKE", "SET 0 1", "END"};
    }

    private static void sequence() {
        Bench.part("BAD before RIGHTS before ILLEGAL");
        Bench b = new Bench();
        b.own(2, 1, 1);
        int[][] rows = {{4 * -1 + TRANSFER, 4 + TRANSFER}, {ASSIGN, 4 + ASSIGN}, {20 + ALLOCATE, 4 + ALLOCATE}};
        for (int kind = TRANSFER; kind <= ALLOCATE; kind++) {
            Bench.due("BAD of " + kind, b.run(2, 0, rows[kind][0], 2, 0, 1, 0), BAD);
            Bench.due("BAD of " + kind, b.run(2, 0, rows[kind][0], 2, 3, 1, 3), BAD);
            Bench.due("RIGHTS of " + kind, b.run(2, 0, rows[kind][1], 2, 0, 1, 2), RIGHTS);
            Bench.due("RIGHTS of " + kind, b.run(2, 0, rows[kind][1], 2, 1, 1, 2), RIGHTS);
            Bench.due("RIGHTS of " + kind, b.run(2, 0, rows[kind][1], 2, 2, 1, 2), RIGHTS);
            Bench.due("ILLEGAL of " + kind, b.run(2, 0, rows[kind][1], 2, 3, 1, 2), ILLEGAL);
        }
        Bench.due("BAD for one slot before RIGHTS", b.run(2, 0, 4, 2, 0), BAD);
        Bench.due("BAD for one account before RIGHTS", b.run(2, 0, 4, 2, 0, 2, 0), BAD);
        Bench.due("RIGHTS of the second before ILLEGAL", b.run(2, 0, 4, 2, 3, 1, 1), RIGHTS);
    }

    private static void rent() {
        rentBySize();
        rentOfTheOther();
        rentOfAnyOrder();
        rentAtTheEnd();
        rentOfWhatWasInvoked();
        rentWhenItGrows();
    }

    private static void rentBySize() {
        Bench.part("RENT: a balance that is not 0 and less than 5 + 2 * size");
        for (int size = 0; size <= 4; size++) {
            int least = 5 + 2 * size;
            for (int left : new int[] {0, 1, 2, least - 2, least - 1, least, least + 1, 100}) {
                Bench b = new Bench();
                b.own(2, 1, size);
                // Account 3 gets what account 2 has not any more.
                b.program(1, "STORE 1 3 3", "SET 5 200", "SUB 5 3", "STORE 1 13 5", "LOG", "GIVE", "END");
                boolean well = left == 0 || left >= least;
                String call = left + " left with size " + size;
                Bench.due(call, b.run(20, 1, left, 2, 2, 3, 2), well ? 0 : RENT);
                Bench.due("account(2, 0)", b.x.account(2, 0), well ? left : 100);
                Bench.due("account(3, 0)", b.x.account(3, 0), well ? 200 - left : 100);
                Bench.due("units() stay", b.x.units(), 20 - 9);
                Bench.due("result() stays", b.x.result(), 2000);
                b.dueLog(2000);
            }
        }
    }

    private static void rentOfTheOther() {
        Bench.part("RENT: any account that is writable, not the one that pays alone");
        for (int gets = 0; gets <= 6; gets++) {
            Bench b = new Bench();
            Bench.due("all of 0", b.run(2, 0, 4 * 100, 0, 3, 1, 2), 0);
            boolean well = gets == 0 || gets >= 5;
            Bench.due(gets + " for 0", b.run(2, 0, 4 * gets, 1, 3, 0, 2), well ? 0 : RENT);
            b.dueAccount(0, well ? gets : 0, 0, 0);
            Bench.due(gets + " for 0, by repeated slots", b.run(2, 0, 4 * gets, 1, 3, 0, 0, 0, 2), well ? 0 : RENT);
        }
    }

    private static void rentOfAnyOrder() {
        Bench.part("RENT: writable in one of its orders");
        for (int poor = 0; poor < 3; poor++) {
            Bench b = new Bench();
            for (int i = 0; i < 3; i++) {
                b.order(0, 4 * (i == poor ? 96 : 95), 2 * i, 3, 2 * i + 1, 2);
            }
            Bench.due("order " + poor + " leaves 4", b.x.run(6), RENT);
            for (int a = 0; a < 8; a++) {
                b.dueAccount(a, 100, 0, 0);
            }
        }
        Bench b = new Bench();
        for (int i = 0; i < 3; i++) {
            b.order(0, 4 * 95, 2 * i, 3, 2 * i + 1, 2);
        }
        Bench.due("all leave 5", b.x.run(6), 0);
        b.dueAccount(4, 5, 0, 0);
    }

    private static void rentAtTheEnd() {
        Bench.part("RENT: then, behind all orders");
        Bench b = new Bench();
        b.order(0, 4 * 99, 0, 3, 1, 2);
        b.order(0, 4 * 4, 1, 3, 0, 2);
        Bench.due("1, then 5", b.x.run(6), 0);
        b.dueAccount(0, 5, 0, 0);
        b.order(0, 4 * 1, 0, 3, 1, 2);
        b.order(0, 4 * 4, 0, 3, 1, 2);
        Bench.due("4, then 0", b.x.run(6), 0);
        b.dueAccount(0, 0, 0, 0);
        b.order(0, 4 * 99, 2, 3, 3, 2);
        b.order(0, 3);
        Bench.due("what goes wrong in an order comes first", b.x.run(6), 100 + BAD);
        // Account 2 is poor by the first order, and stands in the second without being writable there.
        b.order(0, 4 * 99, 2, 3, 3, 2);
        b.order(0, 4 * 1, 4, 3, 5, 2, 2, 1);
        Bench.due("writable in the first alone", b.x.run(6), RENT);
    }

    private static void rentOfWhatWasInvoked() {
        Bench.part("RENT: also by what was invoked");
        for (int left = 4; left <= 5; left++) {
            Bench b = new Bench();
            b.program(1, "SET 1 0", "SET 2 " + 0x191C, "INVOKE", "END");
            Bench.due(left + " left", b.run(20, 1, 4 * (100 - left), 0, 3, 1, 2), left == 5 ? 0 : RENT);
            b.dueAccount(0, left == 5 ? 5 : 100, 0, 0);
        }
    }

    private static void rentWhenItGrows() {
        Bench.part("RENT: less than 5 + 2 * size, when the size is new");
        for (int size = 0; size <= 4; size++) {
            for (int has = 5; has <= 14; has++) {
                Bench b = new Bench();
                Bench.due("all but " + has, b.run(2, 0, 4 * (100 - has), 0, 3, 1, 2), 0);
                boolean well = has >= 5 + 2 * size;
                Bench.due("size " + size + " with " + has, b.run(2, 0, 4 * size + ALLOCATE, 0, 3), well ? 0 : RENT);
                b.dueAccount(0, has, 0, well ? size : 0);
            }
            Bench b = new Bench();
            Bench.due("all", b.run(2, 0, 4 * 100, 0, 3, 1, 2), 0);
            Bench.due("size " + size + " with 0", b.run(2, 0, 4 * size + ALLOCATE, 0, 3), 0);
            b.dueAccount(0, 0, 0, size);
        }
    }

    private static void undoing() {
        Bench.part("whatever goes wrong: all accounts are as before it; the log, the result and the meter stay");
        for (int wrongAt = 1; wrongAt <= 2; wrongAt++) {
            Bench b = new Bench();
            b.own(2, 1, 2);
            b.program(1, "SET 5 9", "STORE 1 6 5", "SET 5 90", "STORE 1 3 5", "SET 5 110", "STORE 1 13 5", "SET 1 77",
                    "LOG", "GIVE", "END");
            Bench.due("a first transaction, which stays", b.run(20, 1, 0, 2, 2, 3, 2), 0);
            b.program(1, "SET 5 -9", "STORE 1 5 5", "SET 5 0", "STORE 1 6 5", "SET 5 80", "STORE 1 3 5", "SET 5 120",
                    "STORE 1 13 5", "SET 1 78", "LOG", "GIVE", "END");
            b.order(1, 0, 2, 2, 3, 2);
            if (wrongAt == 2) {
                b.order(0, 4 * 4 + ALLOCATE, 4, 3);
            }
            b.order(0, 3);
            Bench.due("wrong in order " + wrongAt, b.x.run(60), 100 * wrongAt + BAD);
            b.dueAccount(2, 90, 1, 2);
            b.dueAccount(3, 110, 0, 0);
            b.dueAccount(4, 100, 0, 0);
            Bench.due("data(2, 0)", b.x.data(2, 0), 0);
            Bench.due("data(2, 1)", b.x.data(2, 1), 9);
            b.dueLog(78);
            Bench.due("result()", b.x.result(), 78);
            Bench.due("units()", b.x.units(), 60 - 14 - 2 * wrongAt);
            Bench.due("the first order alone", b.run(20, 1, 0, 2, 2, 3, 2), 0);
            b.dueAccount(2, 80, 1, 2);
            Bench.due("data(2, 0)", b.x.data(2, 0), -9);
        }
    }
}
