/** "An object is used for at most 512 calls": what is promised holds up to the 512th call, dear ones included. */
public final class LongUseTest {
    private static final int MOST_CALLS = 512;

    public static void main(String[] args) {
        dearestRuns();
        fullOrders();
        codeAndWipe();
        refusedCalls();
        allThatIsInvoked();
        Bench.end();
    }

    private static void dearestRuns() {
        Bench.part("runs of 2000 units up to the 512th call");
        Bench b = new Bench();
        b.program(1, "ADDN 5 1", "GO -2");
        int calls = 4;
        while (calls + 2 <= MOST_CALLS) {
            Bench.due("order at call " + calls, b.x.order(1, 0), 0);
            Bench.due("run at call " + calls, b.x.run(2000), AccountMachine.METER);
            calls += 2;
        }
        Bench.due("calls", calls, MOST_CALLS);
    }

    private static void fullOrders() {
        Bench.part("transactions of three orders with four slots up to the 512th call");
        Bench b = new Bench();
        int calls = 0;
        for (int time = 1; calls + 17 <= MOST_CALLS - 8; time++) {
            for (int i = 0; i < 3; i++) {
                Bench.due("order", b.x.order(0, 4), i);
                Bench.due("slot", b.x.slot(2 * i, 3), true);
                Bench.due("slot", b.x.slot(2 * i + 1, 2), true);
                Bench.due("slot", b.x.slot(6, 0), true);
                Bench.due("slot", b.x.slot(7, 0), true);
            }
            Bench.due("run", b.x.run(6), 0);
            Bench.due("account(4, 0)", b.x.account(4, 0), 100 - time);
            calls += 17;
        }
        for (int a = 0; a < 8; a++) {
            int moved = a > 5 ? 0 : a % 2 == 0 ? -calls / 17 : calls / 17;
            Bench.due("account(" + a + ", 0)", b.x.account(a, 0), 100 + moved);
        }
    }

    private static void codeAndWipe() {
        Bench.part("programs filled and wiped up to the 512th call");
        Bench b = new Bench();
        int calls = 0;
        while (calls + 34 <= MOST_CALLS) {
            for (int place = 0; place < 32; place++) {
                Bench.due("code", b.x.code(3, 15, 0, 0, 0, 0), place);
            }
            Bench.due("load(3)", b.x.load(3), 0);
            Bench.due("wipe(3)", b.x.wipe(3), 32);
            calls += 34;
        }
        Bench.due("load(3) at the end", b.x.load(3), 1);
    }

    private static void refusedCalls() {
        Bench.part("a transaction behind 500 refused calls");
        Bench b = new Bench();
        for (int time = 0; time < 50; time++) {
            Bench.due("code(4, ..)", b.x.code(4, 15, 0, 0, 0, 0), -1);
            Bench.due("wipe(0)", b.x.wipe(0), -1);
            Bench.due("load(-1)", b.x.load(-1), -1);
            Bench.due("order(4, 0)", b.x.order(4, 0), -1);
            Bench.due("slot(0, 0)", b.x.slot(0, 0), false);
            Bench.due("run(5)", b.x.run(5), -1);
            Bench.due("run(-5)", b.x.run(-5), -1);
            Bench.due("log(30)", b.x.log(30), 0);
            Bench.due("account(8, 0)", b.x.account(8, 0), -1);
            Bench.due("data(0, 4)", b.x.data(0, 4), 0);
        }
        Bench.due("a transfer", b.run(3, 0, 4, 0, 3, 1, 2), 0);
        b.dueAccount(0, 99, 0, 0);
        Bench.due("account(1, 0)", b.x.account(1, 0), 101);
        Bench.due("units()", b.x.units(), 1);
        Bench.due("logged()", b.x.logged(), 0);
        Bench.due("result()", b.x.result(), 0);
        Bench.due("data(0, 0)", b.x.data(0, 0), 0);
    }

    private static void allThatIsInvoked() {
        Bench.part("four programs deep as often as the units allow, up to the 512th call");
        Bench b = new Bench();
        // Program 1 invokes 2 without end, 2 invokes 3, and 3 has the system transfer 1 from slot 0 to slot 1.
        b.program(1, "SET 2 " + 0x191C, "SET 1 2", "INVOKE", "IFN 3 1 1", "GO -4", "END");
        b.program(2, "SET 2 " + 0x191C, "SET 1 3", "INVOKE", "END");
        b.program(3, "SET 2 " + 0x191C, "SET 1 0", "SET 3 4", "INVOKE", "END");
        // So much that it lasts for all transfers that fit into 2000 units.
        Bench.due("100 from account 2", b.run(2, 0, 400, 2, 3, 0, 2), 0);
        int calls = 8 + 6 + 7 + 4;
        int moved = 0;
        while (calls + 10 <= MOST_CALLS) {
            Bench.due("without end", b.run(2000, 1, 0, 0, 3, 1, 2), AccountMachine.METER);
            Bench.due("units()", b.x.units(), 0);
            Bench.due("once", b.run(60, 1, 1, 0, 3, 1, 2), 0);
            moved++;
            Bench.due("account(1, 0)", b.x.account(1, 0), 100 + moved);
            calls += 10;
        }
    }
}
