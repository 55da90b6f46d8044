/**
 * One test for each sentence of the terms on transactions, memory, the meter and handing back that names a boundary
 * case, on both of its sides.
 */
public final class CarryOutEdgesTest {
    private static final int ACCESS = AccountMachine.ACCESS, METER = AccountMachine.METER;
    private static final int ILLEGAL = AccountMachine.ILLEGAL, NO_OWNER = AccountMachine.NO_OWNER;
    private static final int UNEVEN = AccountMachine.UNEVEN, NO_PROGRAM = AccountMachine.NO_PROGRAM;
    private static final int LEAST = Integer.MIN_VALUE, MOST = Integer.MAX_VALUE;
    private static final int WRITABLE = 2;

    public static void main(String[] args) {
        orders();
        memory();
        stores();
        registersAndMeter();
        handingBackOwners();
        handingBackBalances();
        handingBackData();
        handingBackAll();
        Bench.end();
    }

    private static void orders() {
        noProgram();
        marksOfAllSlots();
    }

    private static void noProgram() {
        Bench.part("NO_PROGRAM: p is not 0 and can't run");
        for (int p = 0; p <= 3; p++) {
            Bench b = new Bench();
            Bench.due("program " + p, b.run(9, p, 3), p == 0 ? AccountMachine.BAD : NO_PROGRAM);
            Bench.due("units(), none being taken for NO_PROGRAM", b.x.units(), p == 0 ? 7 : 9);
            Bench.due("program " + p + " without units", b.run(0, p, 3), p == 0 ? METER : NO_PROGRAM);
            b.order(0, 4, 0, 3, 1, 2);
            b.order(p, 3);
            int want = 100 + (p == 0 ? AccountMachine.BAD : NO_PROGRAM);
            Bench.due("program " + p + " behind a transfer", b.x.run(9), want);
            b.dueAccount(0, 100, 0, 0);
        }
    }

    private static void marksOfAllSlots() {
        Bench.part("signed and writable in an order if it is so in any of its slots");
        Bench b = new Bench();
        b.program(1, "COPY 5 1", "LOAD 1 5 1", "LOG", "LOAD 1 5 11", "LOG", "LOAD 1 5 21", "LOG", "END");
        for (int first = 0; first < 4; first++) {
            for (int second = 0; second < 4; second++) {
                Bench.due("run", b.run(20, 1, 0, 4, first, 5, 0, 4, second), 0);
                b.dueLog(first | second, 0, 0);
            }
        }
        // Marks of another order are no marks of this one.
        b.order(1, 0, 4, 3, 5, 3, 6, 3);
        b.order(1, 0, 4, 0, 5, 1, 6, 2);
        Bench.due("run", b.x.run(40), 0);
        b.dueLog(3, 3, 3, 0, 1, 2);
    }

    private static void memory() {
        stackAddresses();
        slotAddresses();
        addressesAreLongs();
        stackIsEmptyAtFirst();
        slotWords();
        repeatedSlotWords();
    }

    private static int[] blankSlots(int count) {
        int[] slots = new int[2 * count];
        for (int i = 0; i < count; i++) {
            slots[2 * i] = i;
        }
        return slots;
    }

    private static void stackAddresses() {
        Bench.part("1000 .. 1015 are the stack");
        Bench b = new Bench();
        b.program(1, "LOAD 5 3 0", "END");
        b.program(2, "STORE 3 0 3", "END");
        for (int at : new int[] {0, 1, -1, 998, 999, 1016, 1017, LEAST, MOST}) {
            Bench.due("LOAD from " + at, b.run(9, 1, at), ACCESS);
            Bench.due("STORE to " + at, b.run(9, 2, at), ACCESS);
        }
        for (int at = 1000; at <= 1015; at++) {
            Bench.due("LOAD from " + at, b.run(9, 1, at), 0);
            Bench.due("STORE to " + at, b.run(9, 2, at), 0);
        }
    }

    private static void slotAddresses() {
        Bench.part("slot i has 2000 + 10 * i .. 2000 + 10 * i + 9; all of slots that there are not are ACCESS");
        for (int count = 0; count <= 4; count++) {
            Bench b = new Bench();
            b.program(1, "LOAD 5 3 0", "END");
            for (int at : new int[] {1990, 1999, 2000, 2009, 2010, 2019, 2020, 2029, 2030, 2039, 2040, 2049}) {
                int want = at >= 2000 && at < 2000 + 10 * count ? 0 : ACCESS;
                Bench.due("LOAD from " + at + " with " + count, b.run(9, 1, at, blankSlots(count)), want);
            }
        }
    }

    private static void addressesAreLongs() {
        Bench.part("the address s + offset is a long that wraps");
        long[][] rows = {{1L << 32 | 1000, 0, ACCESS}, {(1L << 31) + 1000, LEAST, 0}, {(1L << 31) + 999, LEAST, ACCESS},
            {1015 - (long) MOST, MOST, 0}, {1016 - (long) MOST, MOST, ACCESS}, {Long.MAX_VALUE, MOST, ACCESS},
            {Long.MIN_VALUE, LEAST, ACCESS}, {Long.MIN_VALUE + 1000, 0, ACCESS}, {1L << 32, 1000, ACCESS},
            {2000, -1000, 0}, {2000, -1001, ACCESS}, {0, 1015, 0}, {0, 1016, ACCESS}, {-5, 1005, 0}, {-6, 1005,
            ACCESS}};
        for (long[] row : rows) {
            Bench b = new Bench();
            b.program(1, Bench.lines(Bench.wide(5, row[0]), "LOAD 6 5 " + row[1], "END"));
            b.program(2, Bench.lines(Bench.wide(5, row[0]), "STORE 5 " + row[1] + " 6", "END"));
            Bench.due("LOAD from " + row[0] + " + " + row[1], b.run(9, 1, 0), row[2]);
            Bench.due("STORE to " + row[0] + " + " + row[1], b.run(9, 2, 0), row[2]);
        }
    }

    private static void stackIsEmptyAtFirst() {
        Bench.part("the stack, at first 0");
        Bench b = new Bench();
        // Logs each word of the stack and stores its address there.
        b.program(1, "SET 5 1000", "SET 6 1016", "LOAD 1 5 0", "LOG", "STORE 5 0 5", "ADDN 5 1", "IFLESS 5 6 -5",
                "END");
        for (int time = 0; time < 2; time++) {
            Bench.due("run", b.run(200, 1, 0), 0);
            b.dueLog(new long[16]);
        }
        b.program(2, "SET 5 1000", "STORE 5 0 5", "STORE 5 15 5", "LOAD 1 5 0", "LOG", "LOAD 1 5 15", "LOG", "END");
        b.order(2, 0);
        b.order(2, 0);
        Bench.due("run", b.x.run(200), 0);
        b.dueLog(1000, 1000, 1000, 1000);
    }

    /** Makes program 1 log the ten words from its argument on. */
    private static void dumper(Bench b) {
        b.program(1, "COPY 5 3", "COPY 6 3", "ADDN 6 10", "LOAD 1 5 0", "LOG", "ADDN 5 1", "IFLESS 5 6 -4", "END");
    }

    private static void slotWords() {
        Bench.part("the words of a slot: 0 where there are no data");
        for (int size = 0; size <= 4; size++) {
            Bench b = new Bench();
            b.own(7, 3, size);
            long[] want = {7, 2, 3, 101, size, 0, 0, 0, 0, 0};
            b.x.wipe(3);
            for (int i = 0; i < size; i++) {
                want[5 + i] = i % 2 == 0 ? LEAST + i : MOST - i;
                b.append(3, "SET 5 " + want[5 + i], "STORE 1 " + (5 + i) + " 5");
            }
            b.append(3, "END");
            Bench.due("load(3)", b.x.load(3), 0);
            Bench.due("run", b.run(20, 3, 0, 7, 2), 0);
            Bench.due("transfer", b.run(2, 0, 4, 0, 3, 7, 2), 0);
            dumper(b);
            Bench.due("run", b.run(99, 1, 2000, 7, 2), 0);
            b.dueLog(want);
            Bench.due("run", b.run(99, 1, 2030, 0, 0, 1, 0, 2, 0, 7, 2), 0);
            b.dueLog(want);
        }
    }

    private static void repeatedSlotWords() {
        Bench.part("a repeated one: 0: -1 minus the number of its main slot, and otherwise 0");
        for (int main = 0; main < 3; main++) {
            Bench b = new Bench();
            b.own(6, 2, 4);
            dumper(b);
            int[] slots = blankSlots(4);
            slots[2 * main] = 6;
            for (int slot = main + 1; slot < 4; slot++) {
                slots[2 * slot] = 6;
                slots[2 * slot + 1] = 3;
            }
            for (int slot = 0; slot < 4; slot++) {
                long[] blank = {slot, 0, 0, 100, 0, 0, 0, 0, 0, 0};
                long[] first = {6, 3, 2, 100, 4, 0, 0, 0, 0, 0};
                long[] repeated = {-1 - main, 0, 0, 0, 0, 0, 0, 0, 0, 0};
                Bench.due("run", b.run(99, 1, 2000 + 10 * slot, slots), 0);
                b.dueLog(slot < main ? blank : slot == main ? first : repeated);
            }
        }
    }

    private static void stores() {
        storesToMainSlots();
        storesToRepeatedSlots();
        storesToNoSlots();
    }

    /** Makes program 1 store what stands at the address that is its argument there again. */
    private static void restorer(Bench b) {
        b.program(1, "LOAD 5 3 0", "STORE 3 0 5", "END");
    }

    private static void storesToMainSlots() {
        Bench.part("STORE for main slots to 2, 3 and 5 .. 4 + size");
        for (int size = 0; size <= 4; size++) {
            Bench b = new Bench();
            b.own(3, 1, size);
            restorer(b);
            for (int word = 0; word < 10; word++) {
                boolean may = word == 2 || word == 3 || word >= 5 && word <= 4 + size;
                int got = b.run(9, 1, 2000 + word, 3, WRITABLE);
                Bench.due("STORE to " + word + " with size " + size, got, may ? 0 : ACCESS);
                got = b.run(9, 1, 2030 + word, 0, 3, 1, 3, 2, 3, 3, 0);
                Bench.due("STORE to " + word + " of slot 3 with size " + size, got, may ? 0 : ACCESS);
            }
        }
    }

    private static void storesToRepeatedSlots() {
        Bench.part("STORE to a repeated slot is ACCESS");
        Bench b = new Bench();
        b.own(3, 1, 4);
        restorer(b);
        for (int word = 0; word < 10; word++) {
            Bench.due("STORE to " + word, b.run(9, 1, 2010 + word, 3, 3, 3, 3), ACCESS);
            Bench.due("STORE to " + word, b.run(9, 1, 2030 + word, 3, 3, 0, 3, 1, 3, 3, 3), ACCESS);
        }
        Bench.due("STORE to one between them", b.run(9, 1, 2012, 3, 3, 0, 3, 3, 3), 0);
    }

    private static void storesToNoSlots() {
        Bench.part("STORE to slots that there are not is ACCESS");
        Bench b = new Bench();
        b.program(1, "STORE 3 0 5", "END");
        for (int count = 0; count < 4; count++) {
            for (int word : new int[] {0, 2, 3, 5, 9}) {
                int at = 2000 + 10 * count + word;
                Bench.due("STORE to " + at + " with " + count, b.run(9, 1, at, blankSlots(count)), ACCESS);
            }
        }
        Bench.due("STORE to 1999", b.run(9, 1, 1999, 0, 3), ACCESS);
        Bench.due("STORE to 2042", b.run(9, 1, 2042, blankSlots(4)), ACCESS);
    }

    private static void registersAndMeter() {
        registersAtFirst();
        meterTakesOneEach();
        meterGoesOn();
        deep();
        failed();
    }

    private static void registersAtFirst() {
        Bench.part("at first register 1 is 2000, 2 the number of slots, 3 the argument, all others 0");
        for (int count = 0; count <= 4; count++) {
            Bench b = new Bench();
            int argument = count % 2 == 0 ? LEAST + count : MOST - count;
            b.program(1, "LOG", "COPY 1 0", "LOG", "COPY 1 2", "LOG", "COPY 1 3", "LOG", "COPY 1 4", "LOG", "COPY 1 5",
                    "LOG", "COPY 1 6", "LOG", "COPY 1 7", "LOG", "COPY 1 8", "LOG", "COPY 1 9", "LOG", "SET 9 1",
                    "END");
            for (int time = 0; time < 2; time++) {
                Bench.due("run", b.run(99, 1, argument, blankSlots(count)), 0);
                b.dueLog(2000, 0, count, argument, 0, 0, 0, 0, 0, 0);
            }
        }
    }

    private static void meterTakesOneEach() {
        Bench.part("each instruction takes one unit before it is done: METER, if there is none left");
        String[] lines = {"SET 5 1000", "COPY 6 5", "ADDN 6 1", "ADD 6 6", "SUB 6 5", "MULN 6 2", "DIVN 6 2",
            "LEFT 6 1",
            "LOAD 7 5 0", "STORE 5 0 7", "GO 0", "IFN 7 1 0", "IFLESS 5 7 0", "CALL 1", "END", "END"};
        // The CALL goes to the last END, which goes back to the one before it.
        for (int units = 0; units <= 17; units++) {
            Bench b = new Bench();
            b.program(1, lines);
            Bench.due("run(" + units + ")", b.run(units, 1, 0), units < 16 ? METER : 0);
            Bench.due("units()", b.x.units(), Math.max(0, units - 16));
        }
        Bench b = new Bench();
        b.program(1, "LOAD 7 0 0", "END");
        Bench.due("the unit is taken before ACCESS", b.run(0, 1, 0), METER);
        Bench.due("ACCESS", b.run(1, 1, 0), ACCESS);
        b.program(1, "SET 0 1", "END");
        Bench.due("the unit is taken before FAILED", b.run(1, 1, 0), METER);
        Bench.due("FAILED", b.run(2, 1, 0), AccountMachine.FAILED);
    }

    private static void meterGoesOn() {
        Bench.part("the meter going on from order to order");
        Bench b = new Bench();
        b.program(1, "GO 0", "END");
        for (int units = 0; units <= 7; units++) {
            for (int i = 0; i < 3; i++) {
                b.order(1, 0);
            }
            int want = units < 6 ? METER + 100 * (units / 2) : 0;
            Bench.due("run(" + units + ")", b.x.run(units), want);
            Bench.due("units()", b.x.units(), Math.max(0, units - 6));
        }
        b.program(1, "GO -1");
        Bench.due("a run without end", b.run(2000, 1, 0), METER);
        Bench.due("units()", b.x.units(), 0);
        // 1 + 664 * 3 + 2 + 5 instructions: as long as a run can be.
        b.program(1, "SET 5 665", "ADDN 5 -1", "IFN 5 0 1", "GO -3", "GO 0", "GO 0", "GO 0", "GO 0", "END");
        Bench.due("a run of 2000 instructions", b.run(2000, 1, 0), 0);
        Bench.due("units()", b.x.units(), 0);
        Bench.due("one unit too few for it", b.run(1999, 1, 0), METER);
    }

    private static void deep() {
        Bench.part("DEEP: a CALL when 4 places are remembered");
        Bench b = new Bench();
        // Calls itself as often as the argument says; all of them go back before the run ends.
        b.program(1, "IFN 3 0 2", "ADDN 3 -1", "CALL -3", "END");
        for (int calls = 0; calls <= 6; calls++) {
            Bench.due(calls + " calls", b.run(99, 1, calls), calls <= 4 ? 0 : AccountMachine.DEEP);
            Bench.due("units()", b.x.units(), calls <= 4 ? 99 - 3 * calls - 1 - (calls + 1) : 99 - 15);
        }
        // Places that were gone back to are not remembered any more.
        b.program(2, "SET 5 9", "CALL 3", "ADDN 5 -1", "IFN 5 0 3", "GO -4", "CALL 0", "END", "END");
        Bench.due("one call after the other", b.run(99, 2, 0), 0);
        b.order(1, 4);
        b.order(1, 4);
        b.order(1, 5);
        Bench.due("each order begins with none", b.x.run(99), 200 + AccountMachine.DEEP);
        Bench.due("the run behind DEEP begins with none", b.run(99, 1, 4), 0);
    }

    private static void failed() {
        Bench.part("register 0 is looked at: is it not 0, FAILED");
        for (long value : new long[] {0, 1, -1, 1L << 32, Long.MIN_VALUE, Long.MAX_VALUE}) {
            Bench b = new Bench();
            b.program(1, Bench.lines(Bench.wide(0, value), "END"));
            Bench.due("register 0 is " + value, b.run(9, 1, 0), value == 0 ? 0 : AccountMachine.FAILED);
        }
        Bench b = new Bench();
        b.program(1, "CALL 2", "SET 0 0", "END", "SET 0 1", "END");
        Bench.due("not when END goes back", b.run(9, 1, 0), 0);
        b.program(1, "SET 5 4", "STORE 1 2 5", "COPY 0 3", "END");
        Bench.due("before memory is handed back", b.run(9, 1, 1, 0, 3), AccountMachine.FAILED);
        Bench.due("memory is handed back", b.run(9, 1, 0, 0, 3), NO_OWNER);
    }

    /** Account 1 is program 1's, 2 program 2's, 3 the system's, each with two words; 4 is program 1's. */
    private static Bench owned() {
        Bench b = new Bench();
        for (int a = 1; a <= 3; a++) {
            b.own(a, a % 3, 2);
        }
        b.own(4, 1, 0);
        return b;
    }

    /** Makes program 1 store longs: pairs of a word behind 2000 and what is stored there. */
    private static void storing(Bench b, long... pairs) {
        b.x.wipe(1);
        for (int i = 0; i < pairs.length; i += 2) {
            b.append(1, Bench.wide(5, pairs[i + 1]));
            b.append(1, "STORE 1 " + pairs[i] + " 5");
        }
        b.append(1, "END");
        Bench.due("load(1)", b.x.load(1), 0);
    }

    private static void handingBackOwners() {
        noOwner();
        ownerDiffers();
        ownerOfOneWithData();
    }

    private static void noOwner() {
        Bench.part("NO_OWNER: the owner that stands there is not 0 .. 3");
        for (long owner : new long[] {-1, 4, 5, LEAST, MOST, 1L << 32, (1L << 32) + 1, Long.MIN_VALUE,
            Long.MAX_VALUE}) {
            Bench b = owned();
            storing(b, 2, owner);
            for (int a = 1; a <= 4; a++) {
                Bench.due("owner " + owner + " of " + a, b.run(9, 1, 0, a, 3), NO_OWNER);
                Bench.due("owner " + owner + " of " + a + " without marks", b.run(9, 1, 0, a, 0), NO_OWNER);
            }
        }
        for (int owner = 0; owner <= 3; owner++) {
            Bench b = owned();
            storing(b, 2, owner);
            Bench.due("owner " + owner, b.run(9, 1, 0, 1, WRITABLE), 0);
            b.dueAccount(1, 100, owner, 2);
        }
    }

    private static void ownerDiffers() {
        Bench.part("ILLEGAL: the owner differs, and the account is not writable or not owned by p");
        for (int a = 1; a <= 4; a++) {
            for (int marks = 0; marks < 4; marks++) {
                for (int owner = 0; owner <= 3; owner++) {
                    Bench b = owned();
                    int had = b.x.account(a, 1);
                    boolean well = owner == had || had == 1 && (marks & WRITABLE) != 0;
                    storing(b, 2, owner);
                    String call = "owner " + owner + " of " + a + " with marks " + marks;
                    Bench.due(call, b.run(9, 1, 0, a, marks), well ? 0 : ILLEGAL);
                    Bench.due("account(" + a + ", 1)", b.x.account(a, 1), well ? owner : had);
                }
            }
        }
    }

    private static void ownerOfOneWithData() {
        Bench.part("ILLEGAL: the owner differs, and a data word in memory is not 0, as an int");
        for (int word = 5; word <= 6; word++) {
            for (long value : new long[] {0, 1, -1, 1L << 31, 1L << 32, (1L << 32) + 1, Long.MIN_VALUE}) {
                Bench b = owned();
                storing(b, word, value, 2, 3);
                boolean well = (int) value == 0;
                Bench.due(value + " in word " + word, b.run(20, 1, 0, 1, WRITABLE), well ? 0 : ILLEGAL);
                Bench.due("account(1, 1)", b.x.account(1, 1), well ? 3 : 1);
            }
        }
        // What counts is memory, not what the account has.
        Bench b = owned();
        storing(b, 5, 9);
        Bench.due("run", b.run(9, 1, 0, 1, WRITABLE), 0);
        storing(b, 2, 0);
        Bench.due("the word is there still", b.run(9, 1, 0, 1, WRITABLE), ILLEGAL);
        storing(b, 2, 1);
        Bench.due("the same owner, with a word", b.run(9, 1, 0, 1, WRITABLE), 0);
        storing(b, 2, 0, 5, 0);
        Bench.due("the word goes with the owner", b.run(20, 1, 0, 1, WRITABLE), 0);
        b.dueAccount(1, 100, 0, 2);
        Bench full = new Bench();
        full.own(1, 1, 4);
        storing(full, 8, 1, 2, 3);
        Bench.due("the fourth word", full.run(20, 1, 0, 1, WRITABLE), ILLEGAL);
    }

    private static void handingBackBalances() {
        balanceBounds();
        balanceChanges();
        uneven();
    }

    private static void balanceBounds() {
        Bench.part("ILLEGAL: a balance that is below 0 or above 1000000");
        long[][] rows = {{-1, ILLEGAL}, {0, UNEVEN}, {1, UNEVEN}, {999999, UNEVEN}, {1000000, UNEVEN}, {1000001,
            ILLEGAL},
            {Long.MIN_VALUE, ILLEGAL}, {Long.MAX_VALUE, ILLEGAL}, {(1L << 32) + 100, ILLEGAL}, {100 - (1L << 32),
            ILLEGAL},
            {100, 0}};
        for (long[] row : rows) {
            Bench b = owned();
            storing(b, 3, row[0]);
            Bench.due("balance " + row[0], b.run(9, 1, 0, 1, WRITABLE), row[1]);
            b.dueAccount(1, 100, 1, 2);
        }
        Bench b = owned();
        storing(b, 3, 0, 13, 200);
        Bench.due("all of it", b.run(20, 1, 0, 1, WRITABLE, 4, WRITABLE), 0);
        b.dueAccount(1, 0, 1, 2);
        storing(b, 3, -1, 13, 201);
        Bench.due("more than all of it", b.run(20, 1, 0, 1, WRITABLE, 4, WRITABLE), ILLEGAL);
        // Two balances that make up for one another, one below 0 and one above the most.
        storing(b, 3, 1000001, 13, -999801);
        Bench.due("out of both bounds", b.run(20, 1, 0, 1, WRITABLE, 4, WRITABLE), ILLEGAL);
    }

    private static void balanceChanges() {
        Bench.part("ILLEGAL: less, and not writable or not owned by p; more, and not writable");
        for (int a = 1; a <= 3; a++) {
            for (int marks = 0; marks < 4; marks++) {
                for (int change = -1; change <= 1; change++) {
                    Bench b = owned();
                    boolean writable = (marks & WRITABLE) != 0;
                    boolean well = change == 0 || writable && (change > 0 || a == 1);
                    storing(b, 3, 100 + change, 13, 100 - change);
                    String call = "change by " + change + " of " + a + " with marks " + marks;
                    Bench.due(call, b.run(20, 1, 0, a, marks, 4, WRITABLE), well ? 0 : ILLEGAL);
                    Bench.due("account(" + a + ", 0)", b.x.account(a, 0), well ? 100 + change : 100);
                    Bench.due("account(4, 0)", b.x.account(4, 0), well ? 100 - change : 100);
                }
            }
        }
    }

    private static void uneven() {
        Bench.part("UNEVEN: the sum of all balances in main slots is not what it is for the accounts");
        int[][] rows = {{90, 110, 0}, {90, 109, UNEVEN}, {90, 111, UNEVEN}, {0, 200, 0}, {99, 100, UNEVEN},
            {100, 101, UNEVEN}, {100, 100, 0}};
        for (int[] row : rows) {
            Bench b = owned();
            storing(b, 3, row[0], 23, row[1]);
            // Slots 1 and 3 are repeated: their words are no balances.
            int got = b.run(20, 1, 0, 1, WRITABLE, 1, WRITABLE, 3, WRITABLE, 3, WRITABLE);
            Bench.due("100, 100 to " + row[0] + ", " + row[1], got, row[2]);
            Bench.due("account(1, 0)", b.x.account(1, 0), row[2] == 0 ? row[0] : 100);
            Bench.due("account(3, 0)", b.x.account(3, 0), row[2] == 0 ? row[1] : 100);
        }
        // Sums are looked at order by order.
        Bench b = owned();
        b.program(1, "LOAD 5 1 3", "ADD 5 3", "STORE 1 3 5", "END");
        b.order(1, -1, 1, WRITABLE);
        b.order(1, 1, 1, WRITABLE);
        Bench.due("even only in both orders", b.x.run(40), UNEVEN);
    }

    private static void handingBackData() {
        dataDiffers();
        dataAsInts();
    }

    private static void dataDiffers() {
        Bench.part("ILLEGAL: a data word differs, and the account is not writable or not owned by p");
        for (int a = 1; a <= 3; a++) {
            for (int marks = 0; marks < 4; marks++) {
                for (int word = 5; word <= 6; word++) {
                    Bench b = owned();
                    boolean well = a == 1 && (marks & WRITABLE) != 0;
                    storing(b, word, 1);
                    String call = "word " + word + " of " + a + " with marks " + marks;
                    Bench.due(call, b.run(9, 1, 0, a, marks), well ? 0 : ILLEGAL);
                    Bench.due("data(" + a + ", " + (word - 5) + ")", b.x.data(a, word - 5), well ? 1 : 0);
                    Bench.due("data(" + a + ", " + (6 - word) + ")", b.x.data(a, 6 - word), 0);
                    storing(b, word, well ? 1 : 0);
                    Bench.due("no change of " + call, b.run(9, 1, 0, a, 0), 0);
                }
            }
        }
    }

    private static void dataAsInts() {
        Bench.part("a data word as an int: the lower 32 bits of what stands there");
        for (long value : new long[] {0, 1, -1, LEAST, MOST, 1L << 31, 1L << 32, (1L << 32) - 1, (1L << 32) + 7,
            Long.MIN_VALUE, Long.MAX_VALUE}) {
            Bench b = owned();
            storing(b, 6, value);
            boolean same = (int) value == 0;
            Bench.due(value + " for one not writable", b.run(9, 1, 0, 1, 1), same ? 0 : ILLEGAL);
            Bench.due(value + " for one not owned", b.run(9, 1, 0, 2, WRITABLE), same ? 0 : ILLEGAL);
            Bench.due(value + " for its own", b.run(9, 1, 0, 1, WRITABLE), 0);
            Bench.due("data(1, 1)", b.x.data(1, 1), (int) value);
            storing(b, 6, value + (1L << 32));
            Bench.due("the same lower 32 bits", b.run(9, 1, 0, 1, 0), 0);
            storing(b, 6, value + 1);
            Bench.due("one more", b.run(9, 1, 0, 1, 0), ILLEGAL);
        }
    }

    private static void handingBackAll() {
        sequenceOfSlots();
        accountsGetWhatStandsThere();
    }

    private static void sequenceOfSlots() {
        Bench.part("NO_OWNER and ILLEGAL slot by slot, UNEVEN behind that");
        Bench b = owned();
        storing(b, 2, 4, 3, -1);
        Bench.due("both in one slot", b.run(20, 1, 0, 1, WRITABLE), NO_OWNER);
        storing(b, 2, 4, 13, -1);
        Bench.due("NO_OWNER in slot 0, ILLEGAL in slot 1", b.run(20, 1, 0, 1, WRITABLE, 4, WRITABLE), NO_OWNER);
        storing(b, 3, -1, 12, 4);
        Bench.due("ILLEGAL in slot 0, NO_OWNER in slot 1", b.run(20, 1, 0, 1, WRITABLE, 4, WRITABLE), ILLEGAL);
        storing(b, 3, 99, 32, 4);
        Bench.due("UNEVEN, NO_OWNER in slot 3", b.run(20, 1, 0, 1, WRITABLE, 4, 0, 5, 0, 6, 0), NO_OWNER);
        storing(b, 3, 99, 33, 99);
        Bench.due("UNEVEN, ILLEGAL in slot 3", b.run(20, 1, 0, 1, WRITABLE, 4, 0, 5, 0, 6, 0), ILLEGAL);
        storing(b, 3, 99);
        Bench.due("UNEVEN alone", b.run(20, 1, 0, 1, WRITABLE, 4, 0, 5, 0, 6, 0), UNEVEN);
    }

    private static void accountsGetWhatStandsThere() {
        Bench.part("the accounts get what stands there");
        Bench b = owned();
        storing(b, 3, 90, 5, 7, 12, 3, 13, 108, 23, 101, 33, 101);
        int got = b.run(40, 1, 0, 1, WRITABLE, 4, WRITABLE, 3, WRITABLE, 7, WRITABLE);
        Bench.due("four accounts", got, 0);
        b.dueAccount(1, 90, 1, 2);
        b.dueAccount(4, 108, 3, 0);
        b.dueAccount(3, 101, 0, 2);
        b.dueAccount(7, 101, 0, 0);
        Bench.due("data(1, 0)", b.x.data(1, 0), 7);
        storing(b, 3, 80, 33, 111, 5, -7);
        got = b.run(40, 1, 1, 1, WRITABLE, 4, WRITABLE, 3, WRITABLE, 7, 1);
        Bench.due("the last of them is ILLEGAL", got, ILLEGAL);
        b.dueAccount(1, 90, 1, 2);
        Bench.due("data(1, 0)", b.x.data(1, 0), 7);
    }
}
