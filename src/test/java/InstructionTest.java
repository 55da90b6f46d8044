/** What the instructions do, what they take from the meter, and what memory they reach (promises 7 to 11). */
public final class InstructionTest {
    private static final int ACCESS = AccountMachine.ACCESS;

    public static void main(String[] args) {
        reckoning();
        jumps();
        calls();
        firstRegisters();
        meter();
        layout();
        loads();
        stores();
        freshMemory();
        Bench.end();
    }

    /** What stands in register 1 behind the lines, with the argument in register 3. */
    private static void dueReckoned(long want, int argument, String... lines) {
        Bench b = new Bench();
        b.append(1, "SET 1 0");
        b.append(1, lines);
        b.append(1, "GIVE", "SET 0 0", "END");
        Bench.due("load(1)", b.x.load(1), 0);
        Bench.due("run", b.run(100, 1, argument), 0);
        Bench.due(String.join("; ", lines) + " with " + argument, b.x.result(), want);
    }

    private static void reckoning() {
        Bench.part("reckoning");
        dueReckoned(-7, 0, "SET 1 -7");
        dueReckoned(Integer.MIN_VALUE, Integer.MIN_VALUE, "COPY 1 3");
        dueReckoned(12, 5, "SET 1 7", "ADD 1 3");
        dueReckoned(2, 5, "SET 1 7", "SUB 1 3");
        dueReckoned(4, 0, "SET 1 7", "ADDN 1 -3");
        dueReckoned(2L * Integer.MAX_VALUE, Integer.MAX_VALUE, "COPY 1 3", "ADDN 1 2147483647");
        dueReckoned(-21, 7, "COPY 1 3", "MULN 1 -3");
        dueReckoned(1L << 62, Integer.MIN_VALUE, "COPY 1 3", "MULN 1 -2147483648");
        dueReckoned(Long.MIN_VALUE, Integer.MIN_VALUE, "COPY 1 3", "MULN 1 -2147483648", "MULN 1 2");
        dueReckoned(0, Integer.MIN_VALUE, "COPY 1 3", "MULN 1 -2147483648", "MULN 1 4");
        dueReckoned(7, 7, "COPY 1 3", "DIVN 1 1");
        dueReckoned(3, 7, "COPY 1 3", "DIVN 1 2");
        dueReckoned(-3, -7, "COPY 1 3", "DIVN 1 2");
        dueReckoned(-3, 7, "COPY 1 3", "DIVN 1 -2");
        dueReckoned(3, -7, "COPY 1 3", "DIVN 1 -2");
        dueReckoned(Long.MIN_VALUE, 1, "COPY 1 3", "LEFT 1 63", "DIVN 1 -1");
        dueReckoned(Long.MIN_VALUE, 3, "COPY 1 3", "LEFT 1 63");
        dueReckoned(3, 3, "COPY 1 3", "LEFT 1 0");
        dueReckoned(5L << 40, 5, "COPY 1 3", "LEFT 1 40");
        dueReckoned(Long.MAX_VALUE, 1, "COPY 1 3", "LEFT 1 63", "ADDN 1 -1");
        dueReckoned(0, 1, "COPY 1 3", "LEFT 1 63", "ADD 1 1");
        dueReckoned(9, 0, "SET 9 9", "COPY 1 9");
        dueReckoned(0, 6, "COPY 1 3", "SUB 1 1");
    }

    private static void jumps() {
        Bench.part("jumps");
        dueReckoned(1, 0, "GO 1", "ADDN 1 5", "ADDN 1 1");
        dueReckoned(1, -8, "IFN 3 -8 1", "ADDN 1 5", "ADDN 1 1");
        dueReckoned(6, -8, "IFN 3 8 1", "ADDN 1 5", "ADDN 1 1");
        dueReckoned(6, 8, "COPY 5 3", "LEFT 5 32", "ADDN 5 8", "IFN 5 8 1", "ADDN 1 5", "ADDN 1 1");
        dueReckoned(1, -1, "IFLESS 3 0 1", "ADDN 1 5", "ADDN 1 1");
        dueReckoned(6, 0, "IFLESS 3 0 1", "ADDN 1 5", "ADDN 1 1");
        dueReckoned(6, 1, "IFLESS 3 0 1", "ADDN 1 5", "ADDN 1 1");
        dueReckoned(1, 1, "LEFT 3 63", "IFLESS 3 0 1", "ADDN 1 5", "ADDN 1 1");
        dueReckoned(30, 10, "ADDN 1 3", "ADDN 3 -1", "IFN 3 0 1", "GO -4");
    }

    private static void calls() {
        Bench.part("calls");
        // Place 0 calls 4, which calls 7; each comes back behind its own CALL.
        Bench b = new Bench();
        b.program(1, "CALL 3", "SET 1 1", "LOG", "END", "CALL 2", "SET 1 2", "GO 0", "LOG", "END");
        Bench.due("run", b.run(100, 1, 0), 0);
        b.dueLog(2000, 2, 1);
        Bench.due("units()", b.x.units(), 100 - 14);
        // Register 0 is looked at only when END ends the run.
        b.program(1, "CALL 2", "SET 0 0", "END", "SET 0 1", "END");
        Bench.due("END of a call with register 0 = 1", b.run(100, 1, 0), 0);
        b.program(1, "SET 0 -1", "END");
        Bench.due("END of the run with register 0 = -1", b.run(100, 1, 0), AccountMachine.FAILED);
        b.program(1, "SET 0 1", "LEFT 0 32", "END");
        Bench.due("END with register 0 = 2^32", b.run(100, 1, 0), AccountMachine.FAILED);
        // Calls itself as often as the argument says.
        b.program(1, "IFN 3 0 2", "ADDN 3 -1", "CALL -3", "END");
        Bench.due("4 places remembered", b.run(100, 1, 4), 0);
        Bench.due("units()", b.x.units(), 100 - 3 * 4 - 1 - 5);
        Bench.due("5 places", b.run(100, 1, 5), AccountMachine.DEEP);
        Bench.due("units()", b.x.units(), 100 - 3 * 5);
        b.order(1, 4);
        b.order(1, 4);
        Bench.due("each order begins with none", b.x.run(100), 0);
    }

    private static void firstRegisters() {
        Bench.part("first registers");
        for (int r = 0; r < 10; r++) {
            Bench b = new Bench();
            b.program(2, "COPY 1 " + r, "LOG", "END");
            long[] want = {0, 2000, 2, -9, 0, 0, 0, 0, 0, 0};
            for (int time = 0; time < 2; time++) {
                Bench.due("run", b.run(9, 2, -9, 4, 0, 4, 1), 0);
                b.dueLog(want[r]);
            }
        }
        Bench b = new Bench();
        b.program(1, "LOG", "COPY 1 5", "LOG", "SET 5 1", "SET 1 5", "END");
        b.order(1, 0);
        b.order(1, 0);
        Bench.due("run", b.x.run(40), 0);
        b.dueLog(2000, 0, 2000, 0);
    }

    private static void meter() {
        Bench.part("meter");
        Bench b = new Bench();
        String[] services = {"LOG", "INVOKE", "GIVE", "SEAT"};
        int[] units = {2, 8, 2, 4};
        for (int i = 0; i < 4; i++) {
            // INVOKE is of the system with argument 3, which is BAD and takes 2 units.
            b.program(1, "SET 1 0", "SET 2 0", "SET 3 3", services[i], "SET 0 0", "END");
            int well = i == 1 ? AccountMachine.BAD : 0;
            Bench.due(services[i], b.run(50, 1, 0), well);
            Bench.due("units()", b.x.units(), 50 - 3 - units[i] - (i == 1 ? 0 : 2));
            int few = i == 1 ? 5 : units[i] - 1;
            Bench.due(services[i] + " with too few", b.run(3 + few, 1, 0), AccountMachine.METER);
            Bench.due("units()", b.x.units(), 0);
            Bench.due("logged()", b.x.logged(), 0);
            Bench.due(services[i] + " with one", b.run(3 + 1, 1, 0), AccountMachine.METER);
            Bench.due("units()", b.x.units(), 0);
        }
        b.program(1, "SET 1 0", "SET 2 0", "SET 3 3", "INVOKE", "END");
        Bench.due("too few for the system", b.run(3 + 7, 1, 0), AccountMachine.METER);
        Bench.due("units()", b.x.units(), 0);
        b.program(1, "GO -1");
        Bench.due("an endless run", b.run(2000, 1, 0), AccountMachine.METER);
        b.program(1, "GO 0", "END");
        Bench.due("just enough", b.run(2, 1, 0), 0);
        Bench.due("one too few", b.run(1, 1, 0), AccountMachine.METER);
        Bench.due("none", b.run(0, 1, 0), AccountMachine.METER);
        b.program(1, "LOAD 5 0 0", "END");
        Bench.due("the unit is taken before", b.run(0, 1, 0), AccountMachine.METER);
        Bench.due("ACCESS", b.run(1, 1, 0), ACCESS);
        Bench.due("units()", b.x.units(), 0);
    }

    /** A program that logs the ten words from the argument on. */
    private static void dumper(Bench b) {
        b.program(1, "COPY 5 3", "COPY 6 3", "ADDN 6 10", "LOAD 1 5 0", "LOG", "ADDN 5 1", "IFLESS 5 6 -4", "END");
    }

    private static void layout() {
        Bench.part("layout");
        Bench b = new Bench();
        b.own(5, 2, 3);
        b.program(2, "SET 5 -7", "STORE 1 5 5", "SET 5 8", "STORE 1 7 5", "END");
        Bench.due("run", b.run(99, 2, 0, 5, 2), 0);
        Bench.due("transfer", b.run(99, 0, 4 * 11, 6, 3, 5, 2), 0);
        dumper(b);
        int[] slots = {6, 0, 5, 1, 6, 1, 5, 2};
        long[][] want = {{6, 1, 0, 89, 0, 0, 0, 0, 0, 0}, {5, 3, 2, 111, 3, -7, 0, 8, 0, 0},
            {-1, 0, 0, 0, 0, 0, 0, 0, 0, 0}, {-2, 0, 0, 0, 0, 0, 0, 0, 0, 0}};
        for (int slot = 0; slot < 4; slot++) {
            Bench.due("run", b.run(99, 1, 2000 + 10 * slot, slots), 0);
            b.dueLog(want[slot]);
        }
        Bench.due("a stack", b.run(99, 1, 1003, slots), 0);
        b.dueLog(new long[10]);
        Bench.due("behind the stack", b.run(99, 1, 1007, slots), ACCESS);
        // A third slot of one account is repeated from the first, not from the second.
        Bench.due("run", b.run(99, 1, 2020, 3, 2, 3, 1, 3, 0), 0);
        b.dueLog(-1, 0, 0, 0, 0, 0, 0, 0, 0, 0);
        Bench.due("run", b.run(99, 1, 2000, 3, 2, 3, 1, 3, 0), 0);
        b.dueLog(3, 3, 0, 100, 0, 0, 0, 0, 0, 0);
        Bench.due("a slot that there is not", b.run(99, 1, 2030, 3, 2, 3, 1, 3, 0), ACCESS);
        Bench.due("a slot without marks", b.run(99, 1, 2000, 0, 0), 0);
        b.dueLog(0, 0, 0, 100, 0, 0, 0, 0, 0, 0);
    }

    private static void loads() {
        Bench.part("loads");
        Bench b = new Bench();
        b.program(1, "LOAD 1 3 0", "END");
        int[][] reached = {{999, 0}, {1000, 1}, {1015, 1}, {1016, 0}, {1999, 0}, {2000, 1}, {2019, 1}, {2020, 0},
            {2039, 0}, {0, 0}, {-1, 0}, {Integer.MAX_VALUE, 0}, {Integer.MIN_VALUE, 0}};
        for (int[] row : reached) {
            Bench.due("LOAD from " + row[0], b.run(9, 1, row[0], 0, 0, 0, 3), row[1] == 1 ? 0 : ACCESS);
        }
        Bench.due("LOAD without slots", b.run(9, 1, 2000), ACCESS);
        Bench.due("LOAD of the last word", b.run(9, 1, 2039, 0, 0, 1, 0, 2, 0, 3, 0), 0);
        Bench.due("LOAD behind it", b.run(9, 1, 2040, 0, 0, 1, 0, 2, 0, 3, 0), ACCESS);
        b.program(1, "LEFT 3 32", "ADDN 3 1000", "LOAD 1 3 0", "END");
        Bench.due("LOAD from 1000", b.run(9, 1, 0), 0);
        Bench.due("LOAD from 2^32 + 1000", b.run(9, 1, 1), ACCESS);
        b.program(1, "SET 5 1010", "LOAD 1 5 -10", "LOAD 1 5 5", "LOAD 1 5 -11", "END");
        Bench.due("offsets", b.run(9, 1, 0), ACCESS);
        Bench.due("units()", b.x.units(), 5);
    }

    private static void stores() {
        Bench.part("stores");
        Bench b = new Bench();
        b.own(4, 1, 2);
        // Stores 0 and then what stood there.
        b.program(1, "SET 5 0", "LOAD 6 3 0", "STORE 3 0 5", "STORE 3 0 6", "END");
        for (int at = 995; at < 1020; at++) {
            Bench.due("STORE to " + at, b.run(9, 1, at), at >= 1000 && at <= 1015 ? 0 : ACCESS);
        }
        for (int word = 0; word < 40; word++) {
            boolean owned = word == 2 || word == 3 || word == 5 || word == 6;
            boolean blank = word == 22 || word == 23;
            int got = b.run(9, 1, 2000 + word, 4, 0, 4, 3, 0, 0);
            Bench.due("STORE to " + (2000 + word), got, owned || blank ? 0 : ACCESS);
        }
        b.own(6, 0, 4);
        for (int word = 0; word < 10; word++) {
            boolean may = word == 2 || word == 3 || word >= 5 && word <= 8;
            Bench.due("STORE to " + (2000 + word), b.run(9, 1, 2000 + word, 6, 0), may ? 0 : ACCESS);
        }
        b.program(1, "SET 5 77", "LEFT 5 40", "STORE 1 -1000 5", "LOAD 1 1 -1000", "GIVE", "END");
        Bench.due("the stack holds longs", b.run(20, 1, 0), 0);
        Bench.due("result()", b.x.result(), 77L << 40);
        b.program(1, "SET 5 77", "LEFT 5 40", "ADDN 5 1", "STORE 1 5 5", "LOAD 1 1 5", "GIVE", "END");
        Bench.due("so do slots", b.run(20, 1, 0, 4, 2), 0);
        Bench.due("result()", b.x.result(), (77L << 40) + 1);
        Bench.due("data(4, 0)", b.x.data(4, 0), 1);
    }

    private static void freshMemory() {
        Bench.part("fresh memory");
        Bench b = new Bench();
        b.program(1, "LOAD 1 1 -985", "LOG", "SET 5 6", "SET 1 1000", "STORE 1 15 5", "END");
        b.order(1, 0);
        b.order(1, 0);
        Bench.due("run", b.x.run(99), 0);
        b.dueLog(0, 0);
        b.program(2, "SET 5 6", "SET 1 1000", "STORE 1 15 5", "LOAD 0 3 0", "END");
        Bench.due("a run that goes wrong", b.run(99, 2, 1015), AccountMachine.FAILED);
        Bench.due("run", b.run(99, 1, 0), 0);
        b.dueLog(0);
    }
}
