/**
 * One test for each sentence of the terms on instructions and on loading that names a boundary case, on both of its
 * sides: where reckoning wraps, where jumps go on, and what load calls wrong.
 */
public final class CodeEdgesTest {
    private static final int LEAST = Integer.MIN_VALUE, MOST = Integer.MAX_VALUE;
    private static final int DIVN = 6, LEFT = 7, GO = 10, CALL = 13, SERVICE = 14, END = 15;

    public static void main(String[] args) {
        reckoning();
        goingOn();
        loading();
        running();
        Bench.end();
    }

    /** What register 5 holds behind the lines, if it and register 6 begin with these. */
    private static void dueReckoned(long five, long six, String line, long want) {
        Bench b = new Bench();
        // Registers 7 and 8 are those that the line names without using them.
        b.program(1, Bench.lines("SET 7 700", "SET 8 800", Bench.wide(5, five), Bench.wide(6, six), line, "COPY 1 5",
                "GIVE", "COPY 1 6", "LOG", "COPY 1 7", "LOG", "COPY 1 8", "LOG", "END"));
        Bench.due("run", b.run(99, 1, 0), 0);
        Bench.due(line + " with " + five + " and " + six, b.x.result(), want);
        b.dueLog(six, 700, 800);
    }

    private static void reckoning() {
        setAndCopy();
        addWraps();
        subWraps();
        mulWraps();
        divGoesTowardsZero();
        divWraps();
        leftBy0And63();
    }

    private static void setAndCopy() {
        Bench.part("SET and COPY");
        dueReckoned(7, 8, "SET 5 " + MOST, MOST);
        dueReckoned(7, 8, "SET 5 " + LEAST, LEAST);
        dueReckoned(-1, 8, "SET 5 0", 0);
        dueReckoned(7, Long.MIN_VALUE, "COPY 5 6", Long.MIN_VALUE);
        dueReckoned(7, Long.MAX_VALUE, "COPY 5 6", Long.MAX_VALUE);
    }

    private static void addWraps() {
        Bench.part("ADDN and ADD wrap");
        dueReckoned(Long.MAX_VALUE - 1, 0, "ADDN 5 1", Long.MAX_VALUE);
        dueReckoned(Long.MAX_VALUE, 0, "ADDN 5 1", Long.MIN_VALUE);
        dueReckoned(Long.MIN_VALUE + 1, 0, "ADDN 5 -1", Long.MIN_VALUE);
        dueReckoned(Long.MIN_VALUE, 0, "ADDN 5 -1", Long.MAX_VALUE);
        dueReckoned(MOST, 0, "ADDN 5 1", 1L << 31);
        dueReckoned(LEAST, 0, "ADDN 5 " + LEAST, -1L << 32);
        dueReckoned(Long.MAX_VALUE - 1, 1, "ADD 5 6", Long.MAX_VALUE);
        dueReckoned(Long.MAX_VALUE, 1, "ADD 5 6", Long.MIN_VALUE);
        dueReckoned(Long.MAX_VALUE, Long.MAX_VALUE, "ADD 5 6", -2);
        dueReckoned(Long.MIN_VALUE, -1, "ADD 5 6", Long.MAX_VALUE);
        dueReckoned(Long.MIN_VALUE, Long.MIN_VALUE, "ADD 5 6", 0);
    }

    private static void subWraps() {
        Bench.part("SUB wraps");
        dueReckoned(Long.MIN_VALUE + 1, 1, "SUB 5 6", Long.MIN_VALUE);
        dueReckoned(Long.MIN_VALUE, 1, "SUB 5 6", Long.MAX_VALUE);
        dueReckoned(Long.MAX_VALUE - 1, -1, "SUB 5 6", Long.MAX_VALUE);
        dueReckoned(Long.MAX_VALUE, -1, "SUB 5 6", Long.MIN_VALUE);
        dueReckoned(0, Long.MIN_VALUE, "SUB 5 6", Long.MIN_VALUE);
        dueReckoned(LEAST, MOST, "SUB 5 6", 1 - (1L << 32));
        dueReckoned(LEAST, 7, "SUB 5 5", 0);
    }

    private static void mulWraps() {
        Bench.part("MULN wraps");
        dueReckoned(1L << 61, 0, "MULN 5 2", 1L << 62);
        dueReckoned(1L << 62, 0, "MULN 5 2", Long.MIN_VALUE);
        dueReckoned(1L << 62, 0, "MULN 5 4", 0);
        dueReckoned(Long.MIN_VALUE, 0, "MULN 5 -1", Long.MIN_VALUE);
        dueReckoned(Long.MAX_VALUE, 0, "MULN 5 -1", Long.MIN_VALUE + 1);
        dueReckoned(Long.MAX_VALUE, 0, "MULN 5 2", -2);
        dueReckoned(MOST, 0, "MULN 5 " + MOST, (long) MOST * MOST);
        dueReckoned(LEAST, 0, "MULN 5 " + LEAST, 1L << 62);
        dueReckoned(Long.MAX_VALUE, 0, "MULN 5 0", 0);
    }

    private static void divGoesTowardsZero() {
        Bench.part("DIVN goes towards 0");
        dueReckoned(6, 0, "DIVN 5 3", 2);
        dueReckoned(5, 0, "DIVN 5 3", 1);
        dueReckoned(-5, 0, "DIVN 5 3", -1);
        dueReckoned(-6, 0, "DIVN 5 3", -2);
        dueReckoned(5, 0, "DIVN 5 -3", -1);
        dueReckoned(-5, 0, "DIVN 5 -3", 1);
        dueReckoned(2, 0, "DIVN 5 3", 0);
        dueReckoned(-2, 0, "DIVN 5 3", 0);
        dueReckoned(Long.MAX_VALUE, 0, "DIVN 5 " + LEAST, -((1L << 32) - 1));
        dueReckoned(Long.MIN_VALUE, 0, "DIVN 5 " + LEAST, 1L << 32);
    }

    private static void divWraps() {
        Bench.part("DIVN wraps");
        dueReckoned(Long.MIN_VALUE + 1, 0, "DIVN 5 -1", Long.MAX_VALUE);
        dueReckoned(Long.MIN_VALUE, 0, "DIVN 5 -1", Long.MIN_VALUE);
        dueReckoned(Long.MIN_VALUE, 0, "DIVN 5 1", Long.MIN_VALUE);
    }

    private static void leftBy0And63() {
        Bench.part("LEFT by 0 .. 63");
        dueReckoned(-3, 0, "LEFT 5 0", -3);
        dueReckoned(-3, 0, "LEFT 5 1", -6);
        dueReckoned(1, 0, "LEFT 5 31", 1L << 31);
        dueReckoned(1, 0, "LEFT 5 32", 1L << 32);
        dueReckoned(1, 0, "LEFT 5 62", 1L << 62);
        dueReckoned(1, 0, "LEFT 5 63", Long.MIN_VALUE);
        dueReckoned(2, 0, "LEFT 5 63", 0);
        dueReckoned(3, 0, "LEFT 5 63", Long.MIN_VALUE);
    }

    private static void goingOn() {
        ifn();
        ifless();
        jumpsGoOnAtTheirPlace();
        endGoesBackToTheLatest();
        endWithNoneRemembered();
    }

    /** Whether a jump over one line is taken, with these in registers 5 and 6. */
    private static void dueTaken(long five, long six, String jump, boolean want) {
        Bench b = new Bench();
        b.program(1, Bench.lines(Bench.wide(5, five), Bench.wide(6, six), "SET 1 1", jump, "SET 1 0", "GIVE", "END"));
        Bench.due("run", b.run(99, 1, 0), 0);
        Bench.due(jump + " with " + five + " and " + six, b.x.result() == 1, want);
        Bench.due("units() behind " + jump, b.x.units(), want ? 99 - 11 : 99 - 12);
    }

    private static void ifn() {
        Bench.part("IFN if d = n");
        for (int n : new int[] {0, 1, -1, LEAST, MOST}) {
            dueTaken(n, 0, "IFN 5 " + n + " 1", true);
            dueTaken(n - 1L, n, "IFN 5 " + n + " 1", false);
            dueTaken(n + 1L, n, "IFN 5 " + n + " 1", false);
            dueTaken(n + (1L << 32), n, "IFN 5 " + n + " 1", false);
        }
    }

    private static void ifless() {
        Bench.part("IFLESS if d < s");
        for (long s : new long[] {0, 1, -1, LEAST, MOST, Long.MIN_VALUE + 1, Long.MAX_VALUE - 1}) {
            dueTaken(s - 1, s, "IFLESS 5 6 1", true);
            dueTaken(s, s, "IFLESS 5 6 1", false);
            dueTaken(s + 1, s, "IFLESS 5 6 1", false);
        }
        dueTaken(Long.MIN_VALUE, Long.MAX_VALUE, "IFLESS 5 6 1", true);
        dueTaken(Long.MAX_VALUE, Long.MIN_VALUE, "IFLESS 5 6 1", false);
        dueTaken(1L << 32, 1, "IFLESS 5 6 1", false);
    }

    private static void jumpsGoOnAtTheirPlace() {
        Bench.part("go on at their own place + 1 + offset");
        for (String jump : new String[] {"GO", "IFN 6 0", "IFLESS 7 6", "CALL"}) {
            int back = jump.equals("CALL") ? 1 : 0;
            Bench b = new Bench();
            b.append(1, "SET 7 -1", jump + " 29", "END");
            for (int place = 3; place < 31; place++) {
                b.append(1, "SET 0 1");
            }
            b.append(1, "END");
            Bench.due("load(1)", b.x.load(1), 0);
            Bench.due(jump + " to the last place", b.run(40, 1, 0), 0);
            Bench.due("units()", b.x.units(), 40 - 3 - back);
            b.program(1, "ADDN 5 1", "IFN 5 2 2", "SET 7 -1", jump + " -4", "END");
            Bench.due(jump + " to place 0", b.run(40, 1, 0), 0);
            Bench.due("units()", b.x.units(), 40 - 7 - back);
            b.program(1, "SET 7 -1", jump + " 0", "END");
            Bench.due(jump + " to the place behind", b.run(40, 1, 0), 0);
            Bench.due("units()", b.x.units(), 40 - 3 - back);
            b.program(1, "SET 7 -1", jump + " -1", "END");
            int want = back == 1 ? AccountMachine.DEEP : AccountMachine.METER;
            Bench.due(jump + " to itself", b.run(40, 1, 0), want);
        }
    }

    private static void endGoesBackToTheLatest() {
        Bench.part("END goes on there, the latest one first");
        Bench b = new Bench();
        // Each of the calls at 0, 3, 6 and 9 goes to the next; each logs its number when it is come back to.
        b.program(1, "CALL 2", "SET 1 1", "GO 9", "CALL 2", "SET 1 2", "GO 6", "CALL 2", "SET 1 3", "GO 3", "CALL 2",
                "SET 1 4", "GO 0", "LOG", "END");
        Bench.due("run", b.run(99, 1, 0), 0);
        b.dueLog(2000, 4, 3, 2, 1);
    }

    private static void endWithNoneRemembered() {
        Bench.part("END: if none is remembered, ends the run");
        Bench b = new Bench();
        b.program(1, "CALL 1", "END", "SET 1 5", "LOG", "END", "SET 1 6", "LOG", "END");
        Bench.due("one remembered, then none", b.run(99, 1, 0), 0);
        b.dueLog(5);
        Bench.due("units()", b.x.units(), 99 - 6);
        b.program(1, "END", "SET 1 6", "LOG", "END");
        Bench.due("none remembered", b.run(99, 1, 0), 0);
        b.dueLog();
        Bench.due("units()", b.x.units(), 98);
    }

    /** What load answers of an instruction at place 1 of three, END standing at the others. */
    private static void dueLoad(int kind, int d, int s, int offset, int n, int want) {
        Bench b = new Bench();
        b.append(3, "END");
        b.x.code(3, kind, d, s, offset, n);
        b.append(3, "END");
        String instruction = kind + " " + d + " " + s + " " + offset + " " + n;
        Bench.due("load of " + instruction, b.x.load(3), want == 0 ? 0 : 100 + want);
        Bench.due("run behind load of " + instruction, b.run(9, 3, 0), want == 0 ? 0 : AccountMachine.NO_PROGRAM);
    }

    private static void loading() {
        reason1();
        reason2OfKinds();
        reason2OfRegisters();
        reason3OfJumps();
        reason3BehindTheLast();
        reason4OfDivn();
        reason4OfLeft();
        reason5();
        reasonsByAscendingPlaces();
        leastReasonOfOnePlace();
    }

    private static void reason1() {
        Bench.part("reason 1: there is no instruction");
        for (int p = 1; p <= 3; p++) {
            Bench b = new Bench();
            Bench.due("load(" + p + ") of none", b.x.load(p), 1);
            b.append(p, "END");
            Bench.due("load(" + p + ") of one", b.x.load(p), 0);
            b.x.wipe(p);
            Bench.due("load(" + p + ") of none any more", b.x.load(p), 1);
            Bench.due("run", b.run(9, p, 0), AccountMachine.NO_PROGRAM);
        }
    }

    private static void reason2OfKinds() {
        Bench.part("reason 2: the kind is not 0 .. 15");
        for (int kind = 0; kind <= 15; kind++) {
            dueLoad(kind, 0, 0, 0, 1, 0);
        }
        for (int kind : new int[] {-1, 16, 17, 31, LEAST, MOST}) {
            dueLoad(kind, 0, 0, 0, 1, 2);
        }
    }

    private static void reason2OfRegisters() {
        Bench.part("reason 2: a register is not 0 .. 9");
        for (int kind = 0; kind <= 15; kind++) {
            for (int wrong : new int[] {-1, 10, LEAST, MOST}) {
                dueLoad(kind, wrong, 0, 0, 1, 2);
                dueLoad(kind, 0, wrong, 0, 1, 2);
            }
            dueLoad(kind, 0, 9, 0, 1, 0);
            dueLoad(kind, 9, 0, 0, 1, 0);
        }
    }

    private static void reason3OfJumps() {
        Bench.part("reason 3: it goes on, or may, at a place that is not there");
        for (int kind = 0; kind <= 15; kind++) {
            int want = kind >= GO && kind <= CALL ? 3 : 0;
            for (int offset : new int[] {-3, 1, 30, LEAST, MOST, MOST - 1, MOST - 2}) {
                dueLoad(kind, 0, 0, offset, 1, want);
            }
            for (int offset : new int[] {-2, -1, 0}) {
                dueLoad(kind, 0, 0, offset, 1, 0);
            }
        }
    }

    private static void reason3BehindTheLast() {
        Bench.part("reason 3: END: nowhere; CALL: the one behind it too");
        for (int kind = 0; kind <= 15; kind++) {
            for (int before : new int[] {0, 1, 31}) {
                Bench b = new Bench();
                for (int i = 0; i < before; i++) {
                    b.append(1, "END");
                }
                b.x.code(1, kind, 0, 0, -1, 1);
                boolean well = kind == GO || kind == END;
                Bench.due("load of " + kind + " behind " + before, b.x.load(1), well ? 0 : 100 * before + 3);
                if (before < 31) {
                    b.append(1, "END");
                    Bench.due("load of " + kind + " before another", b.x.load(1), 0);
                }
            }
        }
    }

    private static void reason4OfDivn() {
        Bench.part("reason 4: DIVN with n = 0");
        dueLoad(DIVN, 0, 0, 0, 0, 4);
        for (int n : new int[] {1, -1, 64, LEAST, MOST}) {
            dueLoad(DIVN, 0, 0, 0, n, 0);
        }
        for (int kind = 0; kind <= 15; kind++) {
            dueLoad(kind, 0, 0, 0, 0, kind == DIVN ? 4 : 0);
        }
    }

    private static void reason4OfLeft() {
        Bench.part("reason 4: LEFT with n not 0 .. 63");
        for (int n : new int[] {-1, 64, 65, 127, LEAST, MOST}) {
            dueLoad(LEFT, 0, 0, 0, n, 4);
        }
        for (int n : new int[] {0, 1, 62, 63}) {
            dueLoad(LEFT, 0, 0, 0, n, 0);
        }
    }

    private static void reason5() {
        Bench.part("reason 5: SERVICE with n not 0 .. 3");
        for (int n : new int[] {-1, 4, 5, LEAST, MOST}) {
            dueLoad(SERVICE, 0, 0, 0, n, 5);
        }
        for (int n = 0; n <= 3; n++) {
            dueLoad(SERVICE, 0, 0, 0, n, 0);
        }
        for (int kind = 0; kind <= 15; kind++) {
            if (kind != LEFT && kind != SERVICE) {
                dueLoad(kind, 0, 0, 0, -1, 0);
                dueLoad(kind, 0, 0, 0, 64, 0);
            }
        }
    }

    private static void reasonsByAscendingPlaces() {
        Bench.part("the first thing wrong, by ascending places");
        // Place 30 has the greatest reason, and place 31 the least.
        Bench b = new Bench();
        for (int place = 0; place < 30; place++) {
            b.append(1, "END");
        }
        b.append(1, "SERVICE 4");
        b.x.code(1, 16, 0, 0, 0, 0);
        Bench.due("5 at 30, 2 at 31", b.x.load(1), 3005);
        Bench first = new Bench();
        first.append(1, "LEFT 0 64", "GO 99", "END");
        first.x.code(1, 16, 0, 0, 0, 0);
        Bench.due("4 at 0, 3 at 1, 2 at 3", first.x.load(1), 4);
    }

    private static void leastReasonOfOnePlace() {
        Bench.part("of several at one place the one with the least number");
        // The instruction stands at the last place, so that all but GO and END have the reason 3 too.
        int[][] rows = {{16, 0, 0, -1, 0, 2}, {DIVN, 10, 0, 0, 0, 2}, {LEFT, 0, 10, 0, 64, 2}, {SERVICE, -1, 0, 0, 4,
            2},
            {GO, 10, 0, 5, 0, 2}, {DIVN, 0, 0, 0, 0, 3}, {LEFT, 0, 0, 0, 64, 3}, {SERVICE, 0, 0, 0, 4, 3}};
        for (int[] row : rows) {
            Bench b = new Bench();
            b.append(1, "END");
            b.x.code(1, row[0], row[1], row[2], row[3], row[4]);
            Bench.due("kind " + row[0] + " at the last place", b.x.load(1), 100 + row[5]);
        }
        // With a place behind it, only the register and the number are wrong.
        dueLoad(DIVN, 10, 0, 0, 0, 2);
        dueLoad(LEFT, 0, -1, 0, 64, 2);
        dueLoad(SERVICE, 10, 0, 0, 4, 2);
    }

    private static void running() {
        Bench.part("can run when it was loaded well after its code was changed last");
        for (int p = 1; p <= 3; p++) {
            Bench b = new Bench();
            int other = p % 3 + 1;
            b.append(p, "END");
            dueRun(b, p, false, "not loaded");
            b.x.load(other);
            dueRun(b, p, false, "another loaded");
            b.x.load(p);
            dueRun(b, p, true, "loaded");
            dueRun(b, p, true, "run before");
            b.append(other, "END");
            b.x.wipe(other);
            dueRun(b, p, true, "another changed");
            b.append(p, "END");
            dueRun(b, p, false, "one more instruction");
            b.x.load(p);
            dueRun(b, p, true, "loaded again");
            b.append(p, "SET 0 0");
            Bench.due("load(" + p + ")", b.x.load(p), 203);
            dueRun(b, p, false, "not loaded well");
            b.append(p, "END");
            dueRun(b, p, false, "mended, but not loaded");
            b.x.load(p);
            dueRun(b, p, true, "mended and loaded");
            b.x.wipe(p);
            dueRun(b, p, false, "wiped");
            b.x.load(p);
            dueRun(b, p, false, "loaded with no code");
            b.append(p, "END");
            dueRun(b, p, false, "written again");
        }
    }

    private static void dueRun(Bench b, int p, boolean can, String when) {
        Bench.due("program " + p + ", " + when, b.run(9, p, 0), can ? 0 : AccountMachine.NO_PROGRAM);
    }
}
