/**
 * One test for each sentence of the terms on services and on INVOKE that names a boundary case, on both of its sides.
 */
public final class InvokeEdgesTest {
    private static final int METER = AccountMachine.METER, NO_PROGRAM = AccountMachine.NO_PROGRAM;
    private static final int NO_SLOT = AccountMachine.NO_SLOT, RIGHTS = AccountMachine.RIGHTS;
    private static final int AGAIN = AccountMachine.AGAIN, LIMIT = AccountMachine.LIMIT, BAD = AccountMachine.BAD;
    private static final int LEAST = Integer.MIN_VALUE, MOST = Integer.MAX_VALUE;
    private static final int SIGNED = 4, WRITABLE = 8, THERE = 16;

    public static void main(String[] args) {
        services();
        seats();
        programs();
        slots();
        rights();
        againAndLimit();
        sequence();
        handedBack();
        calleeAndCaller();
        wrongInside();
        Bench.end();
    }

    private static void services() {
        logTakesTwo();
        giveTakesTwo();
        seatTakesFour();
        invokeTakesSix();
    }

    private static void logTakesTwo() {
        Bench.part("LOG (1): METER, and none is left, if there are fewer");
        int[][] rows = {{0, METER, 0, 0}, {1, METER, 0, 0}, {2, METER, 0, 1}, {3, 0, 0, 1}, {4, 0, 1, 1}};
        for (int[] row : rows) {
            Bench b = new Bench();
            b.program(1, "LOG", "END");
            Bench.due("run(" + row[0] + ")", b.run(row[0], 1, 0), row[1]);
            Bench.due("units()", b.x.units(), row[2]);
            Bench.due("logged()", b.x.logged(), row[3]);
        }
    }

    private static void giveTakesTwo() {
        Bench.part("GIVE (1): METER, and none is left, if there are fewer");
        int[][] rows = {{0, METER, 0, 0}, {1, METER, 0, 0}, {2, METER, 0, 2000}, {3, 0, 0, 2000}, {4, 0, 1, 2000}};
        for (int[] row : rows) {
            Bench b = new Bench();
            b.program(1, "GIVE", "END");
            Bench.due("run(" + row[0] + ")", b.run(row[0], 1, 0), row[1]);
            Bench.due("units()", b.x.units(), row[2]);
            Bench.due("result()", b.x.result(), row[3]);
        }
    }

    private static void seatTakesFour() {
        Bench.part("SEAT (3): METER, and none is left, if there are fewer");
        // Register 0 is 3, the seat of program 1 for 2000, so what stands behind SEAT is FAILED.
        for (int units = 0; units <= 6; units++) {
            Bench b = new Bench();
            b.program(1, "SEAT", "END");
            Bench.due("run(" + units + ")", b.run(units, 1, 0), units < 5 ? METER : AccountMachine.FAILED);
            Bench.due("units()", b.x.units(), Math.max(0, units - 5));
        }
    }

    private static void invokeTakesSix() {
        Bench.part("INVOKE (5): METER, and none is left, if there are fewer");
        for (int units = 0; units <= 8; units++) {
            Bench b = new Bench();
            b.program(1, "SET 1 4", "INVOKE", "END");
            Bench.due("run(" + units + ")", b.run(units, 1, 0), units < 7 ? METER : NO_PROGRAM);
            Bench.due("units()", b.x.units(), Math.max(0, units - 7));
        }
        for (int units = 7; units <= 11; units++) {
            Bench b = new Bench();
            b.program(2, "END");
            b.program(1, "SET 1 2", "INVOKE", "END");
            Bench.due("a program with " + units, b.run(units, 1, 0), units < 9 ? METER : 0);
            Bench.due("units()", b.x.units(), Math.max(0, units - 9));
        }
        for (int units = 8; units <= 13; units++) {
            Bench b = new Bench();
            b.program(1, "SET 1 0", "SET 2 " + (THERE | SIGNED | WRITABLE), "SET 3 5", "INVOKE", "END");
            Bench.due("the system with " + units, b.run(units, 1, 0, 0, 3), units < 12 ? METER : 0);
            Bench.due("units()", b.x.units(), Math.max(0, units - 12));
        }
    }

    private static void seats() {
        Bench.part("SEAT: the lower 3 bits of 3 * p + seed");
        long[] seeds = {0, 1, 2, 3, 4, 5, 6, 7, 8, -1, -8, -9, MOST, LEAST, 1L << 32, (1L << 40) + 5, Long.MAX_VALUE,
            Long.MAX_VALUE - 8, Long.MIN_VALUE};
        for (int p = 1; p <= 3; p++) {
            for (long seed : seeds) {
                Bench b = new Bench();
                b.program(p, Bench.lines(Bench.wide(1, seed), "SEAT", "LOG", "COPY 1 0", "GIVE", "SET 0 0", "END"));
                Bench.due("run", b.run(20, p, 0), 0);
                Bench.due("seat of " + p + " for " + seed, b.x.result(), Math.floorMod(3 * p + (int) seed, 8));
                b.dueLog(seed);
            }
        }
    }

    /** The lines of a program that invokes q and ends. */
    private static String[] invoker(int q, int asked, int argument, int seed) {
        return new String[] {"SET 1 " + q, "SET 2 " + asked, "SET 3 " + argument, "SET 4 " + seed, "INVOKE", "END"};
    }

    private static void programs() {
        noSuchProgram();
        programThatCantRun();
    }

    private static void noSuchProgram() {
        Bench.part("NO_PROGRAM: q is not 0 .. 3");
        for (long q : new long[] {-1, 4, LEAST, MOST, 1L << 32, (1L << 32) + 2, Long.MIN_VALUE, Long.MAX_VALUE}) {
            Bench b = new Bench();
            b.program(2, "END");
            b.program(1, Bench.lines(Bench.wide(1, q), "SET 2 0", "INVOKE", "END"));
            Bench.due("q = " + q, b.run(50, 1, 0), NO_PROGRAM);
            Bench.due("units()", b.x.units(), 50 - 10);
        }
        for (int q = 0; q <= 3; q++) {
            Bench b = new Bench();
            b.program(2, "END");
            b.program(3, "END");
            b.program(1, "IFN 3 0 4", "SET 1 " + q, "SET 2 0", "SET 3 " + (q == 0 ? 3 : 0), "INVOKE", "END");
            Bench.due("q = " + q, b.run(50, 1, 1), q == 0 ? BAD : 0);
        }
    }

    private static void programThatCantRun() {
        Bench.part("NO_PROGRAM: q is not 0 and can't run");
        for (int q = 2; q <= 3; q++) {
            Bench b = new Bench();
            b.program(1, invoker(q, 0, 0, 0));
            Bench.due("no code", b.run(50, 1, 0), NO_PROGRAM);
            b.append(q, "END");
            Bench.due("not loaded", b.run(50, 1, 0), NO_PROGRAM);
            b.x.load(q);
            Bench.due("loaded", b.run(50, 1, 0), 0);
            b.append(q, "SET 0 0");
            Bench.due("changed", b.run(50, 1, 0), NO_PROGRAM);
            b.x.load(q);
            Bench.due("not loaded well", b.run(50, 1, 0), NO_PROGRAM);
        }
    }

    private static void slots() {
        firstWithoutBit4Ends();
        noMoreThanFour();
        bitsOfASlot();
        noSlot();
    }

    /** Makes program 2 log how many slots it has and their accounts. */
    private static void slotLogger(Bench b) {
        b.program(2, "COPY 5 1", "COPY 1 2", "LOG", "IFN 2 0 5", "LOAD 1 5 0", "LOG", "ADDN 5 10", "ADDN 2 -1", "GO -6",
                "END");
    }

    private static void firstWithoutBit4Ends() {
        Bench.part("the first one without bit 4 ends them");
        Bench b = new Bench();
        slotLogger(b);
        for (int there = 0; there < 16; there++) {
            int asked = 0;
            int count = 0;
            for (int i = 3; i >= 0; i--) {
                boolean isThere = (there >> i & 1) != 0;
                asked = asked << 8 | (3 - i) | (isThere ? THERE : 0);
                count = isThere ? count + 1 : 0;
            }
            b.program(1, invoker(2, asked, 0, 0));
            Bench.due("run", b.run(99, 1, 0, 4, 0, 5, 0, 6, 0, 7, 0), 0);
            long[] want = new long[count + 1];
            want[0] = count;
            for (int i = 0; i < count; i++) {
                want[i + 1] = 7 - i;
            }
            b.dueLog(want);
        }
    }

    private static void noMoreThanFour() {
        Bench.part("four slots of 8 bits: higher bits of register 2 are none");
        for (long upper : new long[] {0, 1, 0x10, 0x11121314, LEAST, -1}) {
            Bench b = new Bench();
            slotLogger(b);
            b.program(1, Bench.lines(Bench.wide(2, (upper << 32) + 0x13121110), "SET 1 2", "INVOKE", "END"));
            Bench.due("run", b.run(99, 1, 0, 4, 0, 5, 0, 6, 0, 7, 0), 0);
            b.dueLog(4, 4, 5, 6, 7);
            b.program(1, Bench.lines(Bench.wide(2, upper << 32), "SET 1 2", "INVOKE", "END"));
            Bench.due("run", b.run(99, 1, 0, 4, 0, 5, 0, 6, 0, 7, 0), 0);
            b.dueLog(0);
        }
    }

    private static void bitsOfASlot() {
        Bench.part("bits 0, 1 a slot; 2 SIGNED; 3 WRITABLE; 4 there is such a slot; and 5 to 7 nothing");
        for (int upper = 0; upper < 256; upper += 32) {
            Bench b = new Bench();
            // Logs how many slots it has, and the account and the marks of the first one.
            b.program(2, "COPY 5 1", "COPY 1 2", "LOG", "IFN 2 0 4", "LOAD 1 5 0", "LOG", "LOAD 1 5 1", "LOG", "END");
            b.program(1, "COPY 2 3", "SET 1 2", "INVOKE", "END");
            for (int lower = 0; lower < 32; lower++) {
                int signed = (lower & SIGNED) != 0 ? 1 : 0;
                int writable = (lower & WRITABLE) != 0 ? 2 : 0;
                Bench.due("run", b.run(50, 1, upper + lower, 4, 3, 5, 3, 6, 3, 7, 3), 0);
                if ((lower & THERE) != 0) {
                    b.dueLog(1, 4 + (lower & 3), signed + writable);
                } else {
                    b.dueLog(0);
                }
            }
        }
    }

    private static void noSlot() {
        Bench.part("NO_SLOT: one is a slot that the caller's order has not");
        for (int has = 0; has <= 4; has++) {
            for (int slot = 0; slot < 4; slot++) {
                Bench b = new Bench();
                slotLogger(b);
                int[] slots = new int[2 * has];
                for (int position = 0; position < 4; position++) {
                    // Slot 0 stands before it, which is there in all orders but those without slots.
                    int asked = (THERE | slot) << 8 * position;
                    for (int i = 0; i < position; i++) {
                        asked |= THERE << 8 * i;
                    }
                    b.program(1, invoker(2, asked, 0, 0));
                    String call = "slot " + slot + " of " + has + " as number " + position;
                    Bench.due(call, b.run(99, 1, 0, slots), slot < has ? 0 : NO_SLOT);
                }
                b.program(1, invoker(2, slot, 0, 0));
                Bench.due("slot " + slot + " of " + has + ", not asked", b.run(99, 1, 0, slots), 0);
            }
        }
    }

    private static void rights() {
        rightsOfEachSlot();
        rightsFromRepeatedSlots();
        rightsOfTheSeat();
        rightsOfTheSystem();
        rightsGoDown();
    }

    private static void rightsOfEachSlot() {
        Bench.part("RIGHTS: by the slots: one is signed or writable, but not so in the caller's order");
        for (int position = 0; position < 4; position++) {
            for (int has = 0; has < 4; has++) {
                Bench b = new Bench();
                b.program(2, "LOAD 1 1 " + (10 * position + 1), "LOG", "END");
                for (int asks = 0; asks < 4; asks++) {
                    int asked = 0;
                    for (int i = 0; i <= position; i++) {
                        asked |= (THERE | i | (i == position ? asks * SIGNED : 0)) << 8 * i;
                    }
                    int[] slots = {0, 3, 1, 3, 2, 3, 4, 3};
                    slots[2 * position + 1] = has;
                    // Program 1's seat for the seed 4 is account 7, which stands in no slot.
                    b.program(1, invoker(2, asked, 0, 4));
                    int want = (asks & ~has) == 0 ? 0 : RIGHTS;
                    Bench.due(has + " asks " + asks + " in slot " + position, b.run(99, 1, 0, slots), want);
                    if (want == 0) {
                        b.dueLog(asks);
                    }
                }
            }
        }
    }

    private static void rightsFromRepeatedSlots() {
        Bench.part("RIGHTS: signed and writable in the caller's order, in whatever slot");
        for (int first = 0; first < 4; first++) {
            for (int second = 0; second < 4; second++) {
                Bench b = new Bench();
                b.program(2, "END");
                for (int asks = 0; asks < 4; asks++) {
                    int want = (asks & ~(first | second)) == 0 ? 0 : RIGHTS;
                    b.program(1, invoker(2, THERE | asks * SIGNED, 0, 0));
                    Bench.due("the main slot asks " + asks, b.run(99, 1, 0, 0, first, 0, second), want);
                    b.program(1, invoker(2, THERE | 1 | asks * SIGNED, 0, 0));
                    Bench.due("the repeated slot asks " + asks, b.run(99, 1, 0, 0, first, 0, second), want);
                }
            }
        }
    }

    private static void rightsOfTheSeat() {
        Bench.part("RIGHTS: nor the caller's seat for the seed");
        long[] seeds = {0, 1, 7, 8, -1, (1L << 32) + 2, Long.MAX_VALUE, Long.MIN_VALUE};
        for (int p = 1; p <= 3; p++) {
            for (long seed : seeds) {
                Bench b = new Bench();
                int seat = Math.floorMod(3 * p + (int) seed, 8);
                int callee = p % 3 + 1;
                b.program(callee, "LOAD 1 1 1", "LOG", "END");
                b.program(p, Bench.lines(Bench.wide(4, seed), "SET 1 " + callee, "COPY 2 3", "SET 3 0", "INVOKE",
                        "END"));
                for (int a = 0; a < 8; a++) {
                    int want = a == seat ? 0 : RIGHTS;
                    Bench.due(a + " signed, " + seed, b.run(99, p, THERE | SIGNED, a, 0), want);
                    Bench.due(a + " both, " + seed, b.run(99, p, THERE | SIGNED | WRITABLE, a, 2), want);
                    Bench.due(a + " writable, " + seed, b.run(99, p, THERE | WRITABLE, a, 1), RIGHTS);
                }
                Bench.due("the seat", b.run(99, p, THERE | SIGNED, seat, 0), 0);
                b.dueLog(1);
            }
        }
    }

    private static void rightsOfTheSystem() {
        Bench.part("RIGHTS: the system has the marks that are asked, not those of the caller's order");
        for (int asks = 0; asks < 4; asks++) {
            Bench b = new Bench();
            b.program(1, invoker(0, THERE | asks * SIGNED, 5, 0));
            Bench.due("ASSIGN with " + asks, b.run(99, 1, 0, 0, 3), asks == 3 ? 0 : RIGHTS);
            b.dueAccount(0, 100, asks == 3 ? 1 : 0, 0);
        }
    }

    private static void rightsGoDown() {
        Bench.part("RIGHTS: those of the caller's order, not of the transaction's");
        for (int given = 0; given < 4; given++) {
            for (int asks = 0; asks < 4; asks++) {
                Bench b = new Bench();
                b.program(3, "END");
                b.program(2, invoker(3, THERE | asks * SIGNED, 0, 0));
                b.program(1, invoker(2, THERE | given * SIGNED, 0, 0));
                int want = (asks & ~given) == 0 ? 0 : RIGHTS;
                Bench.due(given + " given, " + asks + " asked", b.run(99, 1, 0, 0, 3), want);
            }
        }
    }

    private static void againAndLimit() {
        againOfCallers();
        againIsNotItself();
        againIsNotTheSystem();
        againIsNotWhatWasCarriedOut();
        limitOfPrograms();
        limitOfTheSystem();
    }

    private static void againOfCallers() {
        Bench.part("AGAIN: one of those that are being carried out is by q");
        Bench b = new Bench();
        b.program(1, invoker(2, 0, 0, 0));
        b.program(2, invoker(3, 0, 0, 0));
        b.program(3, "END");
        Bench.due("1, 2, 3", b.run(99, 1, 0), 0);
        b.program(3, invoker(1, 0, 0, 0));
        Bench.due("1, 2, 3, 1", b.run(99, 1, 0), AGAIN);
        b.program(3, invoker(2, 0, 0, 0));
        Bench.due("1, 2, 3, 2", b.run(99, 1, 0), AGAIN);
        b.program(2, invoker(1, 0, 0, 0));
        Bench.due("1, 2, 1", b.run(99, 1, 0), AGAIN);
    }

    private static void againIsNotItself() {
        Bench.part("AGAIN: q is not the caller's program");
        Bench b = new Bench();
        // Calls itself as often as the argument says, and then program 2.
        b.program(1, "SET 2 0", "IFN 3 0 4", "ADDN 3 -1", "SET 1 1", "INVOKE", "END", "SET 1 2", "INVOKE", "END");
        b.program(2, "END");
        Bench.due("1, 2", b.run(99, 1, 0), 0);
        Bench.due("1, 1, 2", b.run(99, 1, 1), 0);
        Bench.due("1, 1, 1, 2", b.run(99, 1, 2), 0);
        b.program(2, invoker(2, 0, 0, 0));
        Bench.due("1, 2, 2, 2, and so on", b.run(99, 1, 0), LIMIT);
        b.program(2, invoker(1, 0, 0, 0));
        Bench.due("1, 1, 2, 1", b.run(99, 1, 1), AGAIN);
    }

    private static void againIsNotTheSystem() {
        Bench.part("AGAIN: the system is never meant");
        Bench b = new Bench();
        int asked = THERE | SIGNED | WRITABLE | (THERE | WRITABLE | 1) << 8;
        b.program(1, "SET 1 0", "SET 2 " + asked, "SET 3 4", "INVOKE", "SET 1 0", "SET 3 4", "INVOKE", "END");
        b.order(0, 4, 0, 3, 1, 2);
        b.order(1, 0, 0, 3, 1, 2);
        b.order(0, 4, 0, 3, 1, 2);
        Bench.due("run", b.x.run(99), 0);
        b.dueAccount(0, 96, 0, 0);
    }

    private static void againIsNotWhatWasCarriedOut() {
        Bench.part("AGAIN: being carried out, not carried out before");
        Bench b = new Bench();
        b.program(1, "SET 1 2", "SET 2 0", "INVOKE", "SET 1 2", "INVOKE", "SET 1 3", "INVOKE", "END");
        b.program(2, invoker(3, 0, 0, 0));
        b.program(3, "END");
        Bench.due("2 and 3, twice", b.run(200, 1, 0), 0);
        b.order(2, 0);
        b.order(1, 0);
        b.order(3, 0);
        Bench.due("orders one after the other", b.x.run(400), 0);
        b.program(3, invoker(1, 0, 0, 0));
        Bench.due("AGAIN in depth 3", b.run(200, 1, 0), AGAIN);
        Bench.due("the run behind it", b.run(200, 3, 0), AGAIN);
        b.program(1, "END");
        Bench.due("the run behind that", b.run(200, 3, 0), 0);
    }

    private static void limitOfPrograms() {
        Bench.part("LIMIT: the caller's depth is 4");
        for (int p = 1; p <= 3; p++) {
            Bench b = new Bench();
            // Calls itself as often as the argument says, and logs how many calls are left then.
            b.program(p, "COPY 1 3", "LOG", "SET 2 0", "IFN 3 0 3", "ADDN 3 -1", "SET 1 " + p, "INVOKE", "END");
            long[][] logs = {{0}, {1, 0}, {2, 1, 0}, {3, 2, 1, 0}, {4, 3, 2, 1}, {5, 4, 3, 2}};
            for (int calls = 0; calls <= 5; calls++) {
                Bench.due(calls + " calls", b.run(200, p, calls), calls <= 3 ? 0 : LIMIT);
                b.dueLog(logs[calls]);
            }
        }
    }

    private static void limitOfTheSystem() {
        Bench.part("LIMIT: for the system too");
        Bench b = new Bench();
        b.program(1, "SET 2 " + (THERE | SIGNED | WRITABLE), "IFN 3 0 4", "ADDN 3 -1", "SET 1 1", "INVOKE", "END",
                "SET 1 0", "SET 3 6", "INVOKE", "END");
        for (int calls = 0; calls <= 4; calls++) {
            Bench.due("ALLOCATE behind " + calls, b.run(200, 1, calls, calls, 3), calls <= 2 ? 0 : LIMIT);
            b.dueAccount(calls, 100, 0, calls <= 2 ? 1 : 0);
        }
    }

    private static void sequence() {
        Bench.part("NO_PROGRAM, NO_SLOT, RIGHTS, AGAIN, LIMIT, and what handing back says");
        int beyond = THERE | 3;
        Bench b = new Bench();
        b.program(1, invoker(2, THERE | SIGNED | beyond << 8, 0, 0));
        Bench.due("NO_PROGRAM first", b.run(99, 1, 0, 0, 0), NO_PROGRAM);
        b.program(2, "END");
        Bench.due("NO_SLOT before RIGHTS of an earlier slot", b.run(99, 1, 0, 0, 0), NO_SLOT);
        b.program(1, invoker(2, THERE, 0, 0));
        b.program(2, invoker(1, beyond, 0, 0));
        Bench.due("NO_SLOT before AGAIN", b.run(99, 1, 0, 0, 0), NO_SLOT);
        b.program(2, invoker(1, THERE | SIGNED, 0, 0));
        Bench.due("RIGHTS before AGAIN", b.run(99, 1, 0, 0, 0), RIGHTS);
        b.program(2, "SET 5 9", "STORE 1 2 5", "SET 1 1", "SET 2 0", "INVOKE", "END");
        Bench.due("AGAIN before handing back", b.run(99, 1, 0, 0, 0), AGAIN);
        // Program 1 three deep, then 2 in depth 4.
        b.program(1, "SET 2 16", "IFN 3 0 4", "ADDN 3 -1", "SET 1 1", "INVOKE", "END", "SET 1 2", "INVOKE", "END");
        Bench.due("AGAIN before LIMIT", b.run(200, 1, 2, 0, 0), AGAIN);
        b.program(3, "END");
        b.program(2, "SET 5 9", "STORE 1 2 5", "SET 1 3", "COPY 2 3", "INVOKE", "END");
        Bench.due("LIMIT before handing back", b.run(200, 1, 2, 0, 0), LIMIT);
        Bench.due("handing back in depth 3", b.run(200, 1, 1, 0, 0), AccountMachine.NO_OWNER);
        b.program(2, invoker(3, THERE | SIGNED, 0, 0));
        Bench.due("RIGHTS before LIMIT", b.run(200, 1, 2, 0, 0), RIGHTS);
        b.program(2, invoker(3, beyond, 0, 0));
        Bench.due("NO_SLOT before LIMIT", b.run(200, 1, 2, 0, 0), NO_SLOT);
        b.program(2, invoker(7, 0, 0, 0));
        Bench.due("NO_PROGRAM before LIMIT", b.run(200, 1, 2, 0, 0), NO_PROGRAM);
        b.program(1, "SET 5 101", "STORE 1 3 5", "SET 1 0", "SET 2 0", "INVOKE", "END");
        Bench.due("METER of INVOKE before handing back", b.run(9, 1, 0, 0, 2), METER);
        Bench.due("handing back before METER of the system", b.run(10, 1, 0, 0, 2), AccountMachine.UNEVEN);
    }

    private static void handedBack() {
        Bench.part("the caller's memory is handed back (with what may go wrong in that)");
        for (int q : new int[] {0, 1, 2}) {
            int[][] rows = {{2, 4, AccountMachine.NO_OWNER}, {3, -1, AccountMachine.ILLEGAL}, {3, 99,
                AccountMachine.UNEVEN},
                {3, 101, AccountMachine.UNEVEN}, {5, 7, 0}};
            for (int[] row : rows) {
                Bench b = new Bench();
                b.own(0, 1, 1);
                b.program(2, "LOAD 1 1 5", "LOG", "END");
                // Program 1 in depth 2 does the same as program 2; the system is asked for what is BAD.
                b.program(1, "IFN 3 9 7", "SET 5 " + row[1], "STORE 1 " + row[0] + " 5", "SET 1 " + q, "SET 2 16",
                        "SET 3 " + (q == 0 ? 3 : 9), "INVOKE", "END", "LOAD 1 1 5", "LOG", "END");
                int want = row[2] == 0 && q == 0 ? BAD : row[2];
                Bench.due(row[1] + " in word " + row[0] + " for " + q, b.run(99, 1, 0, 0, 2), want);
                Bench.due("data(0, 0)", b.x.data(0, 0), want == 0 ? 7 : 0);
                Bench.due("log(0)", b.x.log(0), want == 0 ? 7 : 0);
            }
        }
    }

    private static void calleeAndCaller() {
        argumentOfTheCallee();
        calleeSeesWhatWasHandedBack();
        callerSeesWhatTheAccountsHave();
        callerKeepsAllElse();
        register0Becomes0();
        calleeRepeatsSlots();
        placesAreTheFramesOwn();
    }

    private static void argumentOfTheCallee() {
        Bench.part("register 3 is the argument (its lower 32 bits)");
        long[] values = {0, 1, -1, MOST, LEAST, 1L << 31, (1L << 32) - 1, 1L << 32, (1L << 32) + 5, Long.MAX_VALUE,
            Long.MIN_VALUE};
        for (long value : values) {
            Bench b = new Bench();
            b.program(2, "COPY 1 3", "LOG", "END");
            b.program(1, Bench.lines(Bench.wide(3, value), "SET 1 2", "SET 2 0", "INVOKE", "COPY 1 3", "LOG", "END"));
            Bench.due("run", b.run(99, 1, 0), 0);
            b.dueLog((int) value, value);
        }
    }

    private static void calleeSeesWhatWasHandedBack() {
        Bench.part("handed back before the order is carried out");
        Bench b = new Bench();
        b.own(6, 1, 4);
        b.program(2, "COPY 5 1", "LOAD 1 5 3", "LOG", "LOAD 1 5 8", "LOG", "LOAD 1 5 13", "LOG", "END");
        b.program(1, "SET 5 95", "STORE 1 3 5", "SET 5 105", "STORE 1 13 5", "SET 5 -2", "STORE 1 8 5", "SET 1 2",
                "SET 2 " + (THERE | (THERE | 1) << 8), "INVOKE", "END");
        Bench.due("run", b.run(99, 1, 0, 6, 2, 7, 2), 0);
        b.dueLog(95, -2, 105);
    }

    private static void callerSeesWhatTheAccountsHave() {
        Bench.part("the caller's memory gets what the accounts of its main slots have then (2 to 8)");
        Bench b = new Bench();
        // The system makes account 5 bigger and gives it to program 1: the words may be written then, and no others.
        b.program(1, "COPY 8 1", "SET 2 " + (THERE | 1 | SIGNED | WRITABLE), "SET 1 0", "SET 3 10", "INVOKE", "SET 3 5",
                "INVOKE", "LOAD 1 8 12", "LOG", "LOAD 1 8 14", "LOG", "SET 5 7", "STORE 8 15 5", "STORE 8 16 5", "END");
        Bench.due("size 2", b.run(99, 1, 0, 4, 0, 5, 3), 0);
        b.dueLog(1, 2);
        b.dueAccount(5, 100, 1, 2);
        Bench.due("data(5, 1)", b.x.data(5, 1), 7);
        Bench.due("data(5, 2)", b.x.data(5, 2), 0);
        b.program(1, "COPY 8 1", "SET 2 " + (THERE | SIGNED | WRITABLE), "SET 1 0", "SET 3 10", "INVOKE", "STORE 8 7 5",
                "END");
        Bench.due("beyond size 2", b.run(99, 1, 0, 6, 3), AccountMachine.ACCESS);
        // Longs that stood in memory are ints behind the call, as the account has them.
        b.program(2, "END");
        b.program(1, Bench.lines("COPY 8 1", Bench.wide(5, (3L << 32) + 9), "STORE 8 5 5", "SET 1 2", "SET 2 0",
                "LOAD 6 8 5", "INVOKE", "COPY 1 6", "LOG", "LOAD 1 8 5", "LOG", "END"));
        Bench.due("run", b.run(99, 1, 0, 5, 2), 0);
        b.dueLog((3L << 32) + 9, 9);
        repeatedSlotsStayAsTheyAre();
    }

    private static void repeatedSlotsStayAsTheyAre() {
        Bench b = new Bench();
        b.program(2, "END");
        b.program(1, "COPY 8 1", "SET 1 2", "SET 2 0", "INVOKE", "LOAD 1 8 10", "LOG", "LOAD 1 8 12", "LOG",
                "LOAD 1 8 13",
                "LOG", "LOAD 1 8 0", "LOG", "LOAD 1 8 1", "LOG", "LOAD 1 8 9", "LOG", "END");
        Bench.due("run", b.run(99, 1, 0, 3, 1, 3, 2), 0);
        b.dueLog(-1, 0, 0, 3, 3, 0);
    }

    private static void callerKeepsAllElse() {
        Bench.part("all else of the caller stays as it is");
        Bench b = new Bench();
        b.program(2, "SET 1 -1", "SET 5 1000", "STORE 5 0 1", "STORE 5 15 1", "SET 9 -1", "SET 2 -1", "SET 4 -1",
                "END");
        b.program(1, "SET 5 1000", "STORE 5 0 5", "SET 9 9", "SET 4 4", "SET 1 2", "SET 2 0", "INVOKE", "LOG",
                "COPY 1 2",
                "LOG", "COPY 1 3", "LOG", "COPY 1 4", "LOG", "COPY 1 5", "LOG", "COPY 1 9", "LOG", "LOAD 1 5 0", "LOG",
                "LOAD 1 5 15", "LOG", "END");
        Bench.due("run", b.run(99, 1, -6), 0);
        b.dueLog(2, 0, -6, 4, 1000, 9, 1000, 0);
    }

    private static void register0Becomes0() {
        Bench.part("register 0 becomes 0");
        for (int q : new int[] {0, 2}) {
            for (int value : new int[] {0, 1, -1}) {
                Bench b = new Bench();
                b.program(2, "END");
                b.program(1, "SET 0 " + value, "SET 1 " + q, "SET 2 " + (THERE | SIGNED | WRITABLE), "SET 3 5",
                        "INVOKE",
                        "END");
                Bench.due(value + " before a call of " + q, b.run(99, 1, 0, 0, 3), 0);
            }
        }
    }

    private static void calleeRepeatsSlots() {
        Bench.part("the callee's order: main and repeated slots of its own");
        Bench b = new Bench();
        b.program(2, "COPY 5 1", "LOAD 1 5 0", "LOG", "LOAD 1 5 1", "LOG", "LOAD 1 5 10", "LOG", "LOAD 1 5 11", "LOG",
                "LOAD 1 5 20", "LOG", "END");
        // The caller's repeated slot 2 comes first, its main slot 0 behind it.
        b.program(1, invoker(2, THERE | 2 | (THERE | WRITABLE) << 8 | (THERE | 1) << 16, 0, 0));
        Bench.due("run", b.run(99, 1, 0, 6, 1, 7, 0, 6, 2), 0);
        b.dueLog(6, 2, -1, 0, 7);
        b.program(1, invoker(2, THERE | (THERE | SIGNED) << 8 | (THERE | WRITABLE) << 16, 0, 0));
        Bench.due("one slot thrice", b.run(99, 1, 0, 6, 3), 0);
        b.dueLog(6, 3, -1, 0, -1);
    }

    private static void placesAreTheFramesOwn() {
        Bench.part("each program that is carried out remembers places of its own");
        Bench b = new Bench();
        // Four calls deep, program 1 invokes program 2, which goes four calls deep too; both come back.
        b.program(1, "SET 5 4", "SET 2 0", "CALL 1", "END", "ADDN 5 -1", "IFN 5 0 2", "CALL -3", "END", "SET 1 2",
                "INVOKE", "LOG", "END");
        b.program(2, "SET 5 4", "CALL 1", "END", "ADDN 5 -1", "IFN 5 0 2", "CALL -3", "END", "LOG", "END");
        Bench.due("run", b.run(200, 1, 0), 0);
        b.dueLog(2000, 2);
        b.program(2, "SET 5 5", "CALL 1", "END", "ADDN 5 -1", "IFN 5 0 2", "CALL -3", "END", "LOG", "END");
        Bench.due("a fifth in the callee", b.run(200, 1, 0), AccountMachine.DEEP);
    }

    private static void wrongInside() {
        Bench.part("whatever goes wrong in what was invoked ends the transaction");
        String[][] callees = {{"LOAD 5 0 0", "END"}, {"GO -1"}, {"CALL -1", "END"}, {"SET 0 1", "END"},
            {"SET 5 4", "STORE 1 2 5", "END"}, {"SET 5 3", "STORE 1 2 5", "END"}, {"SET 5 101", "STORE 1 3 5", "END"},
            {"SET 2 19", "SET 1 0", "INVOKE", "END"}, {"SET 2 20", "SET 1 0", "INVOKE", "END"},
            {"SET 2 0", "SET 1 1", "INVOKE", "END"}, {"SET 2 0", "SET 1 2", "INVOKE", "END"},
            {"SET 2 0", "SET 1 0", "SET 3 3", "INVOKE", "END"}, {"SET 1 3", "INVOKE", "END"}};
        int[] want = {AccountMachine.ACCESS, METER, AccountMachine.DEEP, AccountMachine.FAILED, AccountMachine.NO_OWNER,
            AccountMachine.ILLEGAL, AccountMachine.UNEVEN, NO_SLOT, RIGHTS, AGAIN, LIMIT, BAD, NO_PROGRAM};
        for (int i = 0; i < callees.length; i++) {
            Bench b = new Bench();
            b.own(0, 1, 1);
            b.program(2, callees[i]);
            b.program(1, "SET 5 7", "STORE 1 5 5", "LOG", "GIVE", "SET 1 2", "SET 2 24", "INVOKE", "SET 0 0", "END");
            b.order(0, 4, 6, 3, 7, 2);
            b.order(1, 0, 0, 2);
            b.order(0, 4, 6, 3, 7, 2);
            Bench.due(String.join("; ", callees[i]), b.x.run(500), 100 + want[i]);
            Bench.due("data(0, 0)", b.x.data(0, 0), 0);
            b.dueAccount(0, 100, 1, 1);
            b.dueAccount(6, 100, 0, 0);
            b.dueAccount(7, 100, 0, 0);
            b.dueLog(2000);
            Bench.due("result()", b.x.result(), 2000);
        }
    }
}
