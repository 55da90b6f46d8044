/** The services, and INVOKE above all (promise 7). */
public final class InvokeTest {
    private static final int RIGHTS = AccountMachine.RIGHTS, AGAIN = AccountMachine.AGAIN, BAD = AccountMachine.BAD;
    private static final int NO_PROGRAM = AccountMachine.NO_PROGRAM, NO_SLOT = AccountMachine.NO_SLOT;
    private static final int SIGNED = 4, WRITABLE = 8, THERE = 16;

    public static void main(String[] args) {
        seat();
        programs();
        slots();
        rights();
        seatSigns();
        again();
        limit();
        sequence();
        handedBackBefore();
        seenBehind();
        calleeOrder();
        wrongInside();
        Bench.end();
    }

    private static void seat() {
        Bench.part("SEAT");
        Bench b = new Bench();
        for (int p = 1; p <= 3; p++) {
            for (int seed : new int[] {0, 1, 5, 7, 8, -1, -9, Integer.MAX_VALUE, Integer.MIN_VALUE}) {
                b.program(p, "COPY 1 3", "SEAT", "COPY 1 0", "GIVE", "SET 0 0", "END");
                Bench.due("run", b.run(20, p, seed), 0);
                Bench.due("seat of " + p + " for " + seed, b.x.result(), Math.floorMod(3L * p + seed, 8L));
                Bench.due("units()", b.x.units(), 20 - 10);
            }
        }
        b.program(1, "COPY 1 3", "LEFT 1 61", "SEAT", "END");
        Bench.due("register 0 is the seat", b.run(20, 1, 1), AccountMachine.FAILED);
    }

    private static String[] invoker(int q, int asked, int argument, int seed) {
        return new String[] {"SET 1 " + q, "SET 2 " + asked, "SET 3 " + argument, "SET 4 " + seed, "SET 0 9", "INVOKE",
            "END"};
    }

    private static void programs() {
        Bench.part("the program");
        Bench b = new Bench();
        for (int q : new int[] {-1, 4, Integer.MAX_VALUE, Integer.MIN_VALUE, 2}) {
            b.program(1, invoker(q, 0, 0, 0));
            Bench.due("INVOKE of " + q, b.run(50, 1, 0), NO_PROGRAM);
            Bench.due("units()", b.x.units(), 50 - 11);
        }
        b.program(1, "SET 1 1", "LEFT 1 32", "INVOKE", "END");
        Bench.due("INVOKE of 2^32", b.run(50, 1, 0), NO_PROGRAM);
        b.program(2, "END");
        b.program(1, invoker(2, 0, 0, 0));
        Bench.due("INVOKE of 2", b.run(50, 1, 0), 0);
        Bench.due("units()", b.x.units(), 50 - 13);
        b.append(2, "END");
        Bench.due("INVOKE of 2, changed", b.run(50, 1, 0), NO_PROGRAM);
        b.program(1, invoker(0, 0, 3, 0));
        Bench.due("INVOKE of the system", b.run(50, 1, 0), BAD);
        Bench.due("units()", b.x.units(), 50 - 13);
    }

    private static void slots() {
        Bench.part("the slots");
        Bench b = new Bench();
        b.program(2, "COPY 1 2", "LOG", "END");
        int[][] rows = {{0, 0}, {15, 0}, {THERE, 1}, {THERE << 8, 0}, {THERE | 3 | THERE << 8, 2},
            {0x10111213, 4}, {0x10111203, 0}, {0x10110213, 1}, {0x00111213, 3}, {0xF0F1F2F3, 4}};
        for (int[] row : rows) {
            b.program(1, invoker(2, row[0], 0, 0));
            Bench.due("run", b.run(50, 1, 0, 0, 0, 1, 0, 2, 0, 3, 0), 0);
            b.dueLog(row[1]);
        }
        b.program(1, invoker(2, THERE | 1, 0, 0));
        Bench.due("slot 1 of one", b.run(50, 1, 0, 0, 0), NO_SLOT);
        Bench.due("slot 1 of two", b.run(50, 1, 0, 0, 0, 0, 0), 0);
        b.program(1, invoker(2, 0x13121110, 0, 0));
        Bench.due("slot 3 of three", b.run(50, 1, 0, 0, 0, 1, 0, 2, 0), NO_SLOT);
        b.program(1, invoker(2, 0x00000310, 0, 0));
        Bench.due("a slot that is not there", b.run(50, 1, 0, 0, 0), 0);
        // A fifth group of bits is none.
        b.program(1, "SET 1 2", "SET 2 4112", "LEFT 2 16", "ADDN 2 4112", "SET 6 31", "LEFT 6 32", "ADD 2 6", "INVOKE",
                "END");
        Bench.due("run", b.run(50, 1, 0, 0, 0), 0);
        b.dueLog(4);
    }

    private static void rights() {
        Bench.part("the rights");
        Bench b = new Bench();
        b.program(2, "LOAD 1 1 1", "LOG", "END");
        for (int has = 0; has < 4; has++) {
            for (int asks = 0; asks < 4; asks++) {
                b.program(1, invoker(2, THERE | asks * SIGNED, 0, 0));
                int want = (asks & ~has) == 0 ? 0 : RIGHTS;
                Bench.due(has + " asks " + asks, b.run(50, 1, 0, 0, has), want);
                Bench.due("by a repeated slot", b.run(50, 1, 0, 0, 0, 0, has), want);
                if (want == 0) {
                    b.dueLog(asks);
                }
                b.program(1, invoker(2, THERE | (THERE | asks * SIGNED | 1) << 8, 0, 0));
                Bench.due("the second slot", b.run(50, 1, 0, 5, 3, 0, has), want);
                b = new Bench();
                b.program(2, "LOAD 1 1 1", "LOG", "END");
            }
        }
        // Rights go down through several callers, and never up again.
        b.program(3, "LOAD 1 1 1", "LOG", "END");
        b.program(2, invoker(3, THERE | WRITABLE, 0, 0));
        b.program(1, invoker(2, THERE | WRITABLE | SIGNED, 0, 0));
        Bench.due("1 to 2 to 3", b.run(50, 1, 0, 0, 3), 0);
        b.dueLog(2);
        b.program(1, invoker(2, THERE | SIGNED, 0, 0));
        Bench.due("1 to 2 to 3 with less", b.run(50, 1, 0, 0, 3), RIGHTS);
    }

    private static void seatSigns() {
        Bench.part("the caller's seat");
        Bench b = new Bench();
        b.program(2, "LOAD 1 1 1", "LOG", "END");
        for (int seed = -3; seed < 9; seed++) {
            b.program(1, invoker(2, THERE | SIGNED | WRITABLE, 0, seed));
            int seat = Math.floorMod(3 + seed, 8);
            for (int a = 0; a < 8; a++) {
                Bench.due("account " + a + " with seed " + seed, b.run(50, 1, 0, a, 2), a == seat ? 0 : RIGHTS);
            }
            Bench.due("a seat that is not writable", b.run(50, 1, 0, seat, 1), RIGHTS);
        }
        b = new Bench();
        // The seat pays: a transfer of 5 from account 3 + 1 to account 0.
        b.program(1, invoker(0, THERE | SIGNED | WRITABLE | (THERE | WRITABLE | 1) << 8, 20, 1));
        Bench.due("a transfer from the seat", b.run(50, 1, 0, 4, 2, 0, 2), 0);
        b.dueAccount(4, 95, 0, 0);
        b.dueAccount(0, 105, 0, 0);
        Bench.due("not from another", b.run(50, 1, 0, 5, 2, 0, 2), RIGHTS);
        // The seat of the caller's program, not of the called one.
        b.program(2, invoker(0, THERE | SIGNED | WRITABLE | (THERE | WRITABLE | 1) << 8, 20, 1));
        Bench.due("not program 2's", b.run(50, 2, 0, 4, 2, 0, 2), RIGHTS);
        Bench.due("program 2's", b.run(50, 2, 0, 7, 2, 0, 2), 0);
    }

    private static void again() {
        Bench.part("AGAIN");
        Bench b = new Bench();
        b.program(1, invoker(2, 0, 0, 0));
        b.program(2, invoker(1, 0, 0, 0));
        Bench.due("1, 2, 1", b.run(99, 1, 0), AGAIN);
        Bench.due("units() when the order of the transaction is met again", b.x.units(), 99 - 2 * 11);
        b.program(2, invoker(3, 0, 0, 0));
        b.program(3, invoker(1, 0, 0, 0));
        Bench.due("1, 2, 3, 1", b.run(99, 1, 0), AGAIN);
        b.program(3, invoker(2, 0, 0, 0));
        Bench.due("1, 2, 3, 2", b.run(99, 1, 0), AGAIN);
        // Calls itself while the argument is not 0, then calls 3.
        b.program(2, "SET 2 0", "IFN 3 0 4", "ADDN 3 -1", "SET 1 2", "INVOKE", "END", "SET 1 3", "INVOKE", "END");
        b.program(3, "END");
        Bench.due("2, 2, 3", b.run(99, 2, 1), 0);
        b.program(3, invoker(2, 0, 0, 0));
        Bench.due("2, 2, 3, 2", b.run(99, 2, 1), AGAIN);
        // What was carried out is not being carried out any more.
        b.program(1, "SET 1 2", "SET 2 0", "INVOKE", "SET 1 2", "SET 2 0", "INVOKE", "END");
        b.program(2, "END");
        Bench.due("2 twice, one after the other", b.run(99, 1, 0), 0);
        b.program(3, invoker(2, 0, 0, 0));
        b.order(3, 0);
        b.order(1, 0);
        b.order(3, 0);
        Bench.due("orders one after the other", b.x.run(99), 0);
    }

    private static void limit() {
        Bench.part("LIMIT");
        Bench b = new Bench();
        // Calls itself as often as the argument says, then the system for a transfer of 1.
        b.program(1, "SET 2 " + (0x191C), "IFN 3 0 4", "ADDN 3 -1", "SET 1 1", "INVOKE", "END", "SET 1 0", "SET 3 4",
                "INVOKE", "END");
        for (int times = 0; times < 3; times++) {
            Bench.due("depth " + (times + 1), b.run(200, 1, times, 6, 3, 7, 2), 0);
            b.dueAccount(6, 99 - times, 0, 0);
        }
        Bench.due("the system from depth 4", b.run(200, 1, 3, 6, 3, 7, 2), AccountMachine.LIMIT);
        Bench.due("depth 5", b.run(200, 1, 4, 6, 3, 7, 2), AccountMachine.LIMIT);
        b.program(2, "SET 2 0", "IFN 3 0 3", "ADDN 3 -1", "SET 1 2", "INVOKE", "END");
        Bench.due("depth 4", b.run(200, 2, 3), 0);
        Bench.due("depth 5", b.run(200, 2, 4), AccountMachine.LIMIT);
    }

    private static void sequence() {
        Bench.part("the sequence of what goes wrong");
        Bench b = new Bench();
        int beyond = THERE | 3;
        b.program(1, invoker(2, beyond, 0, 0));
        Bench.due("NO_PROGRAM before NO_SLOT", b.run(99, 1, 0, 0, 0), NO_PROGRAM);
        b.program(2, "END");
        b.program(1, invoker(2, THERE | SIGNED | beyond << 8, 0, 0));
        Bench.due("NO_SLOT before RIGHTS", b.run(99, 1, 0, 0, 0), NO_SLOT);
        b.program(2, invoker(1, THERE | SIGNED, 0, 0));
        b.program(1, invoker(2, THERE, 0, 0));
        Bench.due("RIGHTS before AGAIN", b.run(99, 1, 0, 0, 0), RIGHTS);
        // Three deep in 1, then 2 in depth 4, which calls 1.
        b.program(1, "SET 2 0", "IFN 3 0 4", "ADDN 3 -1", "SET 1 1", "INVOKE", "END", "SET 1 2", "INVOKE", "END");
        b.program(2, invoker(1, 0, 0, 0));
        Bench.due("AGAIN before LIMIT", b.run(200, 1, 2), AGAIN);
        b.program(2, "SET 5 9", "STORE 1 2 5", "SET 1 3", "SET 2 0", "INVOKE", "END");
        b.program(1, "SET 2 16", "IFN 3 0 4", "ADDN 3 -1", "SET 1 1", "INVOKE", "END", "SET 1 2", "INVOKE", "END");
        b.program(3, "END");
        Bench.due("LIMIT before it is handed back", b.run(200, 1, 2, 0, 0), AccountMachine.LIMIT);
        Bench.due("handed back before it is carried out", b.run(200, 1, 1, 0, 0), AccountMachine.NO_OWNER);
    }

    private static void handedBackBefore() {
        Bench.part("handed back before");
        Bench b = new Bench();
        b.own(0, 1, 1);
        b.program(2, "COPY 5 1", "LOAD 1 5 5", "LOG", "LOAD 1 5 3", "LOG", "END");
        b.program(1, "SET 5 7", "STORE 1 5 5", "SET 5 70", "STORE 1 3 5", "SET 5 130", "STORE 1 13 5", "SET 1 2",
                "SET 2 16", "INVOKE", "END");
        Bench.due("the callee sees what was changed", b.run(99, 1, 0, 0, 2, 1, 2), 0);
        b.dueLog(7, 70);
        b.dueAccount(0, 70, 1, 1);
        b.dueAccount(1, 130, 0, 0);
        Bench.due("data(0, 0)", b.x.data(0, 0), 7);
        b.program(1, "SET 5 60", "STORE 1 3 5", "SET 1 2", "SET 2 0", "INVOKE", "END");
        Bench.due("UNEVEN before the call", b.run(99, 1, 0, 0, 2, 1, 2), AccountMachine.UNEVEN);
        Bench.due("ILLEGAL before the call", b.run(99, 1, 0, 0, 0, 1, 2), AccountMachine.ILLEGAL);
        b.program(1, "SET 5 60", "STORE 1 3 5", "SET 1 0", "SET 2 0", "SET 3 3", "INVOKE", "END");
        Bench.due("before the system too", b.run(99, 1, 0, 0, 2, 1, 2), AccountMachine.UNEVEN);
    }

    private static void seenBehind() {
        Bench.part("seen behind");
        Bench b = new Bench();
        b.own(0, 2, 2);
        b.program(2, "SET 5 -4", "STORE 1 5 5", "SET 5 60", "STORE 1 3 5", "SET 5 140", "STORE 1 13 5", "END");
        // Registers and the stack stay; slots have what the accounts have then; register 0 is 0.
        b.program(1, "COPY 8 1", "STORE 1 -1000 8", "SET 0 5", "SET 9 6", "SET 1 2", "SET 2 " + 0x1918, "INVOKE",
                "COPY 1 0", "LOG", "COPY 1 9", "LOG", "LOAD 1 8 3", "LOG", "LOAD 1 8 13", "LOG", "LOAD 1 8 5", "LOG",
                "LOAD 1 8 -1000", "LOG", "LOAD 1 8 23", "LOG", "END");
        Bench.due("run", b.run(99, 1, 0, 0, 2, 1, 2, 0, 2), 0);
        b.dueLog(0, 6, 60, 140, -4, 2000, 0);
        b.dueAccount(0, 60, 2, 2);
        // ALLOCATE and ASSIGN, and then the words may be written.
        b.program(3, "COPY 8 1", "SET 1 0", "SET 2 28", "SET 3 14", "INVOKE", "SET 1 0", "SET 3 13", "INVOKE",
                "LOAD 1 8 4", "LOG", "LOAD 1 8 2", "LOG", "SET 5 1", "LEFT 5 33", "ADDN 5 9", "STORE 8 7 5", "SET 1 2",
                "SET 2 0", "INVOKE", "LOAD 1 8 7", "LOG", "END");
        b.program(2, "END");
        Bench.due("run", b.run(99, 3, 0, 5, 3), 0);
        b.dueLog(3, 3, 9);
        b.dueAccount(5, 100, 3, 3);
        Bench.due("data(5, 2)", b.x.data(5, 2), 9);
        b.program(3, "COPY 8 1", "SET 1 0", "SET 2 28", "SET 3 14", "INVOKE", "STORE 8 8 5", "END");
        Bench.due("but not beyond the size", b.run(99, 3, 0, 6, 3), AccountMachine.ACCESS);
    }

    private static void calleeOrder() {
        Bench.part("the callee's order");
        Bench b = new Bench();
        b.program(2, "COPY 1 3", "LOG", "COPY 1 2", "LOG", "SET 5 2000", "LOAD 1 5 0", "LOG", "LOAD 1 5 1", "LOG",
                "LOAD 1 5 10", "LOG", "LOAD 1 5 11", "LOG", "COPY 1 4", "LOG", "COPY 1 0", "LOG", "LOAD 1 5 -1000",
                "LOG", "END");
        // Slots 2, 1 and 3 of the caller, 1 and 3 being one account; the argument is the lower half of register 3.
        b.program(1, "STORE 1 -1000 1", "SET 0 4", "SET 1 2", "SET 2 " + (0x12 | 0x11 << 8 | 0x1B << 16), "SET 3 5",
                "LEFT 3 32", "ADDN 3 -6", "SET 4 7", "INVOKE", "END");
        Bench.due("run", b.run(99, 1, 0, 3, 0, 6, 0, 4, 3, 6, 2), 0);
        b.dueLog(-6, 3, 4, 0, 6, 2, 0, 0, 0);
        // A depth's frame is clean when it is used again.
        b.program(3, "SET 5 1000", "LOAD 1 5 0", "LOG", "STORE 5 0 5", "COPY 1 9", "LOG", "SET 9 3", "CALL 1", "END",
                "END");
        b.program(1, "SET 1 3", "SET 2 0", "INVOKE", "SET 1 3", "INVOKE", "END");
        Bench.due("run", b.run(99, 1, 0), 0);
        b.dueLog(0, 0, 0, 0);
    }

    private static void wrongInside() {
        Bench.part("what goes wrong inside");
        Bench b = new Bench();
        b.own(0, 1, 1);
        b.program(2, "SET 1 5", "LOG", "GIVE", "SET 0 1", "END");
        b.program(1, "SET 5 7", "STORE 1 5 5", "SET 1 2", "SET 2 0", "INVOKE", "SET 0 0", "END");
        b.order(0, 4 * 7, 3, 3, 4, 2);
        b.order(1, 0, 0, 2);
        Bench.due("FAILED", b.x.run(99), 100 + AccountMachine.FAILED);
        Bench.due("data(0, 0)", b.x.data(0, 0), 0);
        b.dueAccount(3, 100, 0, 0);
        b.dueLog(5);
        Bench.due("result()", b.x.result(), 5);
        Bench.due("units()", b.x.units(), 99 - 2 - 10 - 7);
        b.program(2, "GO -1");
        Bench.due("METER", b.run(500, 1, 0, 0, 2), AccountMachine.METER);
        b.program(2, "LOAD 1 1 10", "END");
        Bench.due("ACCESS beyond the callee's slots", b.run(500, 1, 0, 0, 2, 1, 2), AccountMachine.ACCESS);
        b.program(2, "CALL -1", "END");
        Bench.due("DEEP", b.run(500, 1, 0, 0, 2), AccountMachine.DEEP);
        b.program(2, "SET 5 3", "STORE 1 5 5", "END");
        b.program(1, "SET 1 2", "SET 2 24", "INVOKE", "END");
        Bench.due("the callee does not own it", b.run(500, 1, 0, 0, 2), AccountMachine.ILLEGAL);
        b.program(2, "END");
        Bench.due("all is well again", b.run(500, 1, 0, 0, 2), 0);
    }
}
