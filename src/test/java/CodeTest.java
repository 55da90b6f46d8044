/** Promises 2, 3 and 4: code, wipe and load. */
public final class CodeTest {
    private static final int NONE = AccountMachine.NONE;
    private static final int SET = 0, DIVN = 6, LEFT = 7, GO = 10, IFN = 11, IFLESS = 12, CALL = 13, SERVICE = 14;
    private static final int END = 15;

    public static void main(String[] args) {
        code();
        wipe();
        loadKindsAndRegisters();
        loadPlaces();
        loadNumbers();
        loadFirstReason();
        canRun();
        Bench.end();
    }

    private static void code() {
        Bench.part("promise 2");
        Bench b = new Bench();
        for (int p : new int[] {0, -1, 4, Integer.MIN_VALUE, Integer.MAX_VALUE}) {
            Bench.due("code of program " + p, b.x.code(p, END, 0, 0, 0, 0), NONE);
        }
        for (int p = 1; p <= 3; p++) {
            for (int place = 0; place < 32; place++) {
                Bench.due("code(" + p + ", ..)", b.x.code(p, place - 8, -place, 99, -1, place), place);
            }
            Bench.due("code of a full program", b.x.code(p, END, 0, 0, 0, 0), NONE);
        }
    }

    private static void wipe() {
        Bench.part("promise 3");
        Bench b = new Bench();
        for (int p : new int[] {0, -1, 4, Integer.MIN_VALUE}) {
            Bench.due("wipe(" + p + ")", b.x.wipe(p), NONE);
        }
        b.append(1, "END", "END");
        b.append(2, "END", "END", "END");
        Bench.due("wipe(1)", b.x.wipe(1), 2);
        Bench.due("wipe(1) again", b.x.wipe(1), 0);
        Bench.due("code behind wipe", b.x.code(1, END, 0, 0, 0, 0), 0);
        Bench.due("wipe(2)", b.x.wipe(2), 3);
        for (int i = 0; i < 32; i++) {
            b.append(3, "END");
        }
        Bench.due("wipe(3)", b.x.wipe(3), 32);
    }

    /** What load answers of a single instruction at place 1 with an END on each side. */
    private static void dueLoad(int kind, int d, int s, int offset, int n, int want) {
        Bench b = new Bench();
        b.append(2, "END");
        b.x.code(2, kind, d, s, offset, n);
        b.append(2, "END");
        Bench.due("load of " + kind + " " + d + " " + s + " " + offset + " " + n, b.x.load(2), want);
    }

    private static void loadKindsAndRegisters() {
        Bench.part("promise 4, reasons 1 and 2");
        Bench b = new Bench();
        for (int p : new int[] {0, -1, 4, Integer.MAX_VALUE}) {
            Bench.due("load(" + p + ")", b.x.load(p), NONE);
        }
        Bench.due("load(3)", b.x.load(3), 1);
        for (int kind = 0; kind <= 15; kind++) {
            dueLoad(kind, 9, 9, 0, 1, 0);
            dueLoad(kind, 0, 0, 0, 1, 0);
            dueLoad(kind, 10, 0, 0, 1, 102);
            dueLoad(kind, 0, 10, 0, 1, 102);
            dueLoad(kind, -1, 0, 0, 1, 102);
            dueLoad(kind, 0, -1, 0, 1, 102);
        }
        dueLoad(-1, 0, 0, 0, 1, 102);
        dueLoad(16, 0, 0, 0, 1, 102);
        dueLoad(Integer.MIN_VALUE, 0, 0, 0, 1, 102);
        dueLoad(Integer.MAX_VALUE, 0, 0, 0, 1, 102);
    }

    private static void loadPlaces() {
        Bench.part("promise 4, reason 3");
        for (int kind = 0; kind <= 15; kind++) {
            boolean jumps = kind >= GO && kind <= CALL;
            for (int offset : new int[] {-3, 1, Integer.MAX_VALUE, Integer.MIN_VALUE, 1000}) {
                dueLoad(kind, 0, 0, offset, 1, jumps ? 103 : 0);
            }
            for (int offset = -2; offset <= 0; offset++) {
                dueLoad(kind, 0, 0, offset, 1, 0);
            }
            Bench b = new Bench();
            b.x.code(1, kind, 0, 0, -1, 1);
            Bench.due("load of " + kind + " at the last place", b.x.load(1), kind == GO || kind == END ? 0 : 3);
        }
        Bench full = new Bench();
        for (int i = 0; i < 31; i++) {
            full.append(1, "SET 0 0");
        }
        full.append(1, "GO 0");
        Bench.due("load of a GO to place 32", full.x.load(1), 3103);
    }

    private static void loadNumbers() {
        Bench.part("promise 4, reasons 4 and 5");
        dueLoad(DIVN, 0, 0, 0, 0, 104);
        dueLoad(DIVN, 0, 0, 0, -1, 0);
        dueLoad(LEFT, 0, 0, 0, 0, 0);
        dueLoad(LEFT, 0, 0, 0, 63, 0);
        dueLoad(LEFT, 0, 0, 0, 64, 104);
        dueLoad(LEFT, 0, 0, 0, -1, 104);
        dueLoad(SERVICE, 0, 0, 0, 0, 0);
        dueLoad(SERVICE, 0, 0, 0, 3, 0);
        dueLoad(SERVICE, 0, 0, 0, 4, 105);
        dueLoad(SERVICE, 0, 0, 0, -1, 105);
        for (int kind : new int[] {SET, 2, 5, IFN, GO, IFLESS, CALL, END}) {
            dueLoad(kind, 0, 0, 0, 0, 0);
            dueLoad(kind, 0, 0, 0, 64, 0);
            dueLoad(kind, 0, 0, 0, Integer.MIN_VALUE, 0);
        }
    }

    private static void loadFirstReason() {
        Bench.part("promise 4, the first reason");
        Bench b = new Bench();
        b.x.code(1, SERVICE, 0, 0, 0, 9);
        b.x.code(1, 99, 0, 0, 0, 0);
        b.append(1, "END");
        Bench.due("the least place counts", b.x.load(1), 5);
        b.x.wipe(1);
        b.append(1, "SET 0 0");
        b.x.code(1, SERVICE, 12, 0, 0, 9);
        Bench.due("2 before 3 and 5", b.x.load(1), 102);
        b.x.wipe(1);
        b.append(1, "SET 0 0", "LEFT 0 77");
        Bench.due("3 before 4", b.x.load(1), 103);
        b.x.wipe(1);
        b.append(1, "SET 0 0", "SERVICE 77");
        Bench.due("3 before 5", b.x.load(1), 103);
    }

    private static void canRun() {
        Bench.part("loaded well after the last change");
        Bench b = new Bench();
        b.append(1, "END");
        Bench.due("not loaded", b.run(9, 1, 0), AccountMachine.NO_PROGRAM);
        Bench.due("units()", b.x.units(), 9);
        Bench.due("load(1)", b.x.load(1), 0);
        Bench.due("loaded", b.run(9, 1, 0), 0);
        Bench.due("load(1) again", b.x.load(1), 0);
        Bench.due("still loaded", b.run(9, 1, 0), 0);
        b.append(1, "END");
        Bench.due("changed", b.run(9, 1, 0), AccountMachine.NO_PROGRAM);
        b.append(1, "SET 0 0");
        Bench.due("load(1)", b.x.load(1), 203);
        Bench.due("not loaded well", b.run(9, 1, 0), AccountMachine.NO_PROGRAM);
        b.program(1, "END");
        b.x.wipe(1);
        Bench.due("wiped", b.run(9, 1, 0), AccountMachine.NO_PROGRAM);
        b.append(1, "END");
        Bench.due("written again", b.run(9, 1, 0), AccountMachine.NO_PROGRAM);
        Bench.due("load(1)", b.x.load(1), 0);
        b.append(2, "END");
        b.x.wipe(3);
        Bench.due("others changed", b.run(9, 1, 0), 0);
        for (int i = 1; i < 32; i++) {
            b.append(1, "END");
        }
        Bench.due("load(1)", b.x.load(1), 0);
        b.append(1, "END");
        Bench.due("a refused instruction is no change", b.run(9, 1, 0), 0);
    }
}
