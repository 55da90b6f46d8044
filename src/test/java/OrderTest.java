/** Promises 5 to 13 but for what programs do: orders, slots, runs, what is answered of them and of accounts. */
public final class OrderTest {
    private static final int NONE = AccountMachine.NONE;

    public static void main(String[] args) {
        order();
        slot();
        run();
        rent();
        undoing();
        logAndResult();
        accountsAndData();
        Bench.end();
    }

    private static void order() {
        Bench.part("promise 5");
        Bench b = new Bench();
        for (int p : new int[] {-1, 4, Integer.MIN_VALUE, Integer.MAX_VALUE}) {
            Bench.due("order(" + p + ", 0)", b.x.order(p, 0), NONE);
        }
        Bench.due("order(3, 7)", b.x.order(3, 7), 0);
        Bench.due("order(0, -7)", b.x.order(0, -7), 1);
        Bench.due("order(4, 0)", b.x.order(4, 0), NONE);
        Bench.due("order(1, 0)", b.x.order(1, 0), 2);
        Bench.due("order(1, 0)", b.x.order(1, 0), NONE);
        Bench.due("run(0)", b.x.run(0), AccountMachine.NO_PROGRAM);
        Bench.due("order(2, 0) behind a run", b.x.order(2, 0), 0);
    }

    private static void slot() {
        Bench.part("promise 6");
        Bench b = new Bench();
        Bench.due("slot(0, 0) without an order", b.x.slot(0, 0), false);
        b.order(1, 0);
        for (int wrong : new int[] {-1, 8, Integer.MIN_VALUE, Integer.MAX_VALUE}) {
            Bench.due("slot(" + wrong + ", 0)", b.x.slot(wrong, 0), false);
            Bench.due("slot(0, " + wrong + ")", b.x.slot(0, wrong), false);
        }
        Bench.due("slot(0, 4)", b.x.slot(0, 4), false);
        for (int i = 0; i < 4; i++) {
            Bench.due("slot(7, " + i + ")", b.x.slot(7, i), true);
        }
        Bench.due("a fifth slot", b.x.slot(0, 0), false);
        b.order(1, 0);
        Bench.due("a slot of the next order", b.x.slot(0, 0), true);
        b.x.run(0);
        Bench.due("slot(0, 0) behind a run", b.x.slot(0, 0), false);
        // An order that is added has none of the slots that an earlier one had.
        b.program(1, "LOG", "COPY 1 2", "LOG", "END");
        Bench.due("run", b.run(9, 1, 0, 3, 0), 0);
        b.dueLog(2000, 1);
        Bench.due("run", b.run(9, 1, 0), 0);
        b.dueLog(2000, 0);
    }

    private static void run() {
        Bench.part("promises 7 and 8");
        Bench b = new Bench();
        b.program(1, "COPY 1 3", "LOG", "GIVE", "END");
        Bench.due("run(5) without orders", b.x.run(5), NONE);
        b.order(1, 5);
        Bench.due("run(-1)", b.x.run(-1), NONE);
        Bench.due("run(2001)", b.x.run(2001), NONE);
        Bench.due("units()", b.x.units(), 0);
        Bench.due("run(2000)", b.x.run(2000), 0);
        Bench.due("units()", b.x.units(), 1994);
        Bench.due("run(2000) without orders", b.x.run(2000), NONE);
        Bench.due("units() stay", b.x.units(), 1994);
        Bench.due("result() stays", b.x.result(), 5);
        b.dueLog(5);
        b.order(1, 1);
        b.order(1, 2);
        b.order(1, -3);
        Bench.due("three orders", b.x.run(18), 0);
        Bench.due("units()", b.x.units(), 0);
        Bench.due("the latest result", b.x.result(), -3);
        b.dueLog(1, 2, -3);
        b.order(1, 1);
        b.order(1, 2);
        b.order(1, 3);
        Bench.due("the meter goes on", b.x.run(17), 200 + AccountMachine.METER);
        b.dueLog(1, 2, 3);
        b.order(1, 1);
        b.order(2, 2);
        b.order(1, 3);
        Bench.due("the first wrong order ends it", b.x.run(17), 100 + AccountMachine.NO_PROGRAM);
        Bench.due("units()", b.x.units(), 11);
        b.dueLog(1);
        Bench.due("run(0)", b.run(0, 1, 8), AccountMachine.METER);
        Bench.due("result()", b.x.result(), 0);
        b.dueLog();
    }

    private static void rent() {
        Bench.part("rent");
        int rent = 300 + AccountMachine.RENT;
        Bench b = new Bench();
        Bench.due("4 left", b.run(2, 0, 4 * 96, 0, 3, 1, 2), rent);
        b.dueAccount(0, 100, 0, 0);
        b.dueAccount(1, 100, 0, 0);
        Bench.due("units()", b.x.units(), 0);
        Bench.due("5 left", b.run(2, 0, 4 * 95, 0, 3, 1, 2), 0);
        Bench.due("none left", b.run(2, 0, 4 * 5, 0, 3, 1, 2), 0);
        b.dueAccount(0, 0, 0, 0);
        Bench.due("1 there", b.run(2, 0, 4, 1, 3, 0, 2), rent);
        // With 4 words the rent is 13.
        b.own(2, 1, 4);
        b.program(1, "LOAD 5 1 3", "SUB 5 3", "STORE 1 3 5", "LOAD 5 1 13", "ADD 5 3", "STORE 1 13 5", "END");
        Bench.due("12 left", b.run(9, 1, 88, 2, 2, 3, 2), rent);
        Bench.due("13 left", b.run(9, 1, 87, 2, 2, 3, 2), 0);
        b.dueAccount(2, 13, 1, 4);
        // Only the end of the transaction counts.
        Bench poor = new Bench();
        poor.order(0, 4 * 98, 0, 3, 1, 2);
        poor.order(0, 4 * 50, 1, 3, 0, 2);
        Bench.due("poor for a while", poor.x.run(9), 0);
        poor.dueAccount(0, 52, 0, 0);
        poor.order(0, 4 * 49, 0, 3, 1, 2);
        poor.order(0, 4 * 1, 2, 3, 1, 2);
        Bench.due("poor from an order before the last", poor.x.run(9), rent);
        poor.order(0, 4 * 98, 5, 3, 1, 2);
        poor.order(0, 4 * 5 + 2, 1, 3);
        Bench.due("what goes wrong in an order is told first", poor.x.run(9), 113);
        // An account that has grown while poor: 10 is enough for size 0, not for size 4; not looked at if not writable.
        Bench grown = new Bench();
        Bench.due("10 left", grown.run(9, 0, 4 * 90, 0, 3, 1, 2), 0);
        Bench.due("size 2", grown.run(9, 0, 4 * 2 + 2, 0, 3), 0);
        grown.dueAccount(0, 10, 0, 2);
        Bench two = new Bench();
        Bench.due("8 left", two.run(9, 0, 4 * 92, 0, 3, 1, 2), 0);
        Bench.due("size 2", two.run(9, 0, 4 * 2 + 2, 0, 3), rent);
        two.dueAccount(0, 8, 0, 0);
        Bench.due("size 1", two.run(9, 0, 4 * 1 + 2, 0, 3), 0);
    }

    private static void undoing() {
        Bench.part("undoing");
        Bench b = new Bench();
        b.own(2, 1, 2);
        b.program(1, "SET 5 9", "STORE 1 5 5", "SET 1 77", "LOG", "GIVE", "COPY 0 3", "END");
        b.order(0, 4 * 10, 0, 3, 1, 2);
        b.order(1, 0, 2, 2);
        b.order(0, 3);
        Bench.due("run", b.x.run(50), 200 + AccountMachine.BAD);
        b.dueAccount(0, 100, 0, 0);
        b.dueAccount(1, 100, 0, 0);
        Bench.due("data(2, 0)", b.x.data(2, 0), 0);
        b.dueLog(77);
        Bench.due("result() stays", b.x.result(), 77);
        Bench.due("units() stay", b.x.units(), 50 - 2 - 9 - 2);
        b.order(0, 4 * 3 + 2, 4, 3);
        b.order(0, 4 * 3 + 1, 4, 3);
        b.order(1, 1, 2, 2);
        Bench.due("run", b.x.run(50), 200 + AccountMachine.FAILED);
        b.dueAccount(4, 100, 0, 0);
        Bench.due("run", b.run(50, 1, 0, 2, 2), 0);
        Bench.due("data(2, 0)", b.x.data(2, 0), 9);
    }

    private static void logAndResult() {
        Bench.part("promises 9, 10 and 11");
        Bench b = new Bench();
        // Logs 0, 1, .. argument - 1, and gives each of them.
        b.program(1, "SET 1 0", "IFLESS 1 3 1", "END", "LOG", "GIVE", "ADDN 1 1", "GO -6");
        for (int count : new int[] {29, 30, 31, 45, 1, 0}) {
            Bench.due("run", b.run(2000, 1, count), 0);
            Bench.due("logged()", b.x.logged(), Math.min(30, count));
            Bench.due("result()", b.x.result(), Math.max(0, count - 1));
            for (int i = -2; i < 33; i++) {
                Bench.due("log(" + i + ")", b.x.log(i), i >= 0 && i < Math.min(30, count) ? i : 0);
            }
            Bench.due("log(MIN_VALUE)", b.x.log(Integer.MIN_VALUE), 0);
            Bench.due("log(MAX_VALUE)", b.x.log(Integer.MAX_VALUE), 0);
        }
        b.program(1, "SET 1 -5", "LEFT 1 60", "LOG", "GIVE", "END");
        Bench.due("run", b.run(2000, 1, 0), 0);
        b.dueLog(-5L << 60);
        Bench.due("result()", b.x.result(), -5L << 60);
        Bench.due("run", b.run(2000, 2, 0), AccountMachine.NO_PROGRAM);
        b.dueLog();
        Bench.due("result()", b.x.result(), 0);
    }

    private static void accountsAndData() {
        Bench.part("promises 12 and 13");
        Bench b = new Bench();
        b.own(7, 3, 3);
        b.program(3, "SET 5 -1", "STORE 1 5 5", "SET 5 8", "STORE 1 7 5", "END");
        Bench.due("run", b.run(9, 3, 0, 7, 2), 0);
        b.dueAccount(7, 100, 3, 3);
        int[] words = {-1, 0, 8, 0, 0};
        for (int i = 0; i < words.length; i++) {
            Bench.due("data(7, " + i + ")", b.x.data(7, i), words[i]);
        }
        for (int none : new int[] {-1, 8, Integer.MIN_VALUE, Integer.MAX_VALUE}) {
            Bench.due("data(" + none + ", 0)", b.x.data(none, 0), 0);
            Bench.due("data(7, " + none + ")", b.x.data(7, none), 0);
            Bench.due("data(6, " + none + ")", b.x.data(6, none), 0);
            Bench.due("account(" + none + ", 0)", b.x.account(none, 0), NONE);
            Bench.due("account(7, " + none + ")", b.x.account(7, none), NONE);
        }
        Bench.due("account(7, 3)", b.x.account(7, 3), NONE);
        // The words of one account end before those of the next.
        b.own(6, 3, 4);
        b.own(5, 3, 1);
        Bench.due("run", b.run(9, 3, 0, 6, 2), 0);
        Bench.due("data(5, 4)", b.x.data(5, 4), 0);
        Bench.due("data(6, 3)", b.x.data(6, 3), 0);
        Bench.due("data(6, 4)", b.x.data(6, 4), 0);
        Bench full = new Bench();
        full.own(7, 1, 4);
        Bench.due("data(7, 4)", full.x.data(7, 4), 0);
    }
}
