/** Long runs of made-up calls, the same each time, with the answers of the machine compared with those of the model. */
public final class RandomRunsTest {
    private static final int RUNS = 6000, MOST_CALLS = 512, DUMP_CALLS = 8 * 3 + 8 * 4 + 31;

    private long state;
    private AccountMachine machine;
    private Model model;
    private int calls;
    private final int[] outcomes = new int[400];
    private final int[] reasons = new int[6];

    public static void main(String[] args) {
        RandomRunsTest test = new RandomRunsTest();
        for (int run = 1; run <= RUNS; run++) {
            Bench.part("made-up run " + run);
            test.run(run);
        }
        test.dueOutcomes();
        Bench.end();
    }

    /** A run that never meets some outcome would prove nothing of it. */
    private void dueOutcomes() {
        Bench.part("outcomes");
        for (int what = 1; what <= 13; what++) {
            int met = outcomes[what] + outcomes[100 + what] + outcomes[200 + what];
            Bench.due("met " + what + " often (" + met + ")", met >= 50, true);
        }
        Bench.due("met success often (" + outcomes[0] + ")", outcomes[0] >= 5000, true);
        Bench.due("met RENT often (" + outcomes[314] + ")", outcomes[314] >= 50, true);
        for (int reason = 0; reason < reasons.length; reason++) {
            Bench.due("met reason " + reason + " often (" + reasons[reason] + ")", reasons[reason] >= 20, true);
        }
    }

    private int below(int n) {
        state = state * 6364136223846793005L + 1442695040888963407L;
        return (int) ((state >>> 33) % n);
    }

    private boolean oneIn(int n) {
        return below(n) == 0;
    }

    private int pick(int... values) {
        return values[below(values.length)];
    }

    private void run(int seed) {
        state = seed * 7919L;
        machine = new AccountMachine();
        model = new Model();
        calls = 0;
        for (int p = 1; p <= 3; p++) {
            program(p);
        }
        for (int a = 0; a < 8; a += 1 + below(3)) {
            order(0, 4 * below(5) + 2, a, 3);
            order(0, 4 * (1 + below(3)) + 1, a, 3);
            runOrders(100);
        }
        while (calls + 120 < MOST_CALLS - DUMP_CALLS) {
            if (oneIn(6)) {
                program(1 + below(3));
            }
            if (oneIn(40)) {
                wrongCalls();
            }
            for (int i = pick(1, 1, 2, 3); i > 0; i--) {
                madeUpOrder();
            }
            runOrders(oneIn(6) ? below(60) : 60 + below(1941));
        }
        dump();
        Bench.due("at most 512 calls (" + calls + ")", calls <= MOST_CALLS, true);
    }

    private void code(int p, int kind, int d, int s, int offset, int n) {
        calls++;
        Bench.due("code", machine.code(p, kind, d, s, offset, n), model.code(p, kind, d, s, offset, n));
    }

    private void order(int p, int argument, int... slots) {
        calls++;
        Bench.due("order", machine.order(p, argument), model.order(p, argument));
        for (int i = 0; i < slots.length; i += 2) {
            calls++;
            Bench.due("slot", machine.slot(slots[i], slots[i + 1]), model.slot(slots[i], slots[i + 1]));
        }
    }

    private void runOrders(int units) {
        calls += 4;
        int want = model.run(units);
        Bench.due("run(" + units + ")", machine.run(units), want);
        Bench.due("units()", machine.units(), model.units());
        Bench.due("result()", machine.result(), model.result());
        Bench.due("logged()", machine.logged(), model.logged());
        if (want >= 0) {
            outcomes[want]++;
        }
    }

    private void madeUpOrder() {
        int p = below(4);
        int[] slots = new int[2 * below(5)];
        for (int i = 0; i < slots.length; i += 2) {
            slots[i] = below(8);
            slots[i + 1] = pick(3, 3, 3, 2, 2, 1, 0);
        }
        order(p, oneIn(10) ? below(1 << 30) - (1 << 29) : systemArgument(), slots);
    }

    private int systemArgument() {
        int what = pick(0, 0, 0, 1, 2, 3);
        return 4 * (what == 0 ? pick(0, 1, 5, 40, 94, 95, 96, 100) : below(6) - (oneIn(8) ? 1 : 0)) + what;
    }

    private void wrongCalls() {
        calls += 12;
        int odd = pick(-1, 4, 8, 99, Integer.MIN_VALUE, Integer.MAX_VALUE);
        Bench.due("code", machine.code(odd, 0, 0, 0, 0, 0), model.code(odd, 0, 0, 0, 0, 0));
        Bench.due("wipe", machine.wipe(odd), model.wipe(odd));
        Bench.due("load", machine.load(odd), model.load(odd));
        Bench.due("order", machine.order(odd, 0), model.order(odd, 0));
        Bench.due("slot", machine.slot(odd, 0), model.slot(odd, 0));
        Bench.due("slot", machine.slot(0, odd), model.slot(0, odd));
        Bench.due("run", machine.run(-1), model.run(-1));
        Bench.due("run", machine.run(2001), model.run(2001));
        Bench.due("log", machine.log(odd), model.log(odd));
        Bench.due("account", machine.account(odd, 0), model.account(odd, 0));
        Bench.due("account", machine.account(0, odd), model.account(0, odd));
        Bench.due("data", machine.data(0, odd), model.data(0, odd));
    }

    private void dump() {
        calls += DUMP_CALLS;
        for (int a = 0; a < 8; a++) {
            for (int what = 0; what < 3; what++) {
                Bench.due("account(" + a + ", " + what + ")", machine.account(a, what), model.account(a, what));
            }
            for (int i = 0; i < 4; i++) {
                Bench.due("data(" + a + ", " + i + ")", machine.data(a, i), model.data(a, i));
            }
        }
        for (int i = 0; i < 31; i++) {
            Bench.due("log(" + i + ")", machine.log(i), model.log(i));
        }
    }

    private void program(int p) {
        calls += 2;
        Bench.due("wipe", machine.wipe(p), model.wipe(p));
        int pieces = below(6);
        for (int i = 0; i < pieces; i++) {
            piece(p);
        }
        if (!oneIn(10)) {
            code(p, 0, 0, 0, 0, 0);
        }
        if (!oneIn(20)) {
            code(p, 15, 0, 0, 0, 0);
        }
        int want = model.load(p);
        Bench.due("load", machine.load(p), want);
        reasons[want % 100]++;
    }

    private void piece(int p) {
        int slot = 10 * below(4);
        switch (below(9)) {
            case 0 -> moveMoney(p, slot, 10 * below(4));
            case 1 -> {
                code(p, 0, 5, 0, 0, below(9) - 4);
                if (oneIn(4)) {
                    code(p, 7, 5, 0, 0, 20 + below(30));
                }
                code(p, 9, 1, 5, slot + 5 + below(4), 0);
            }
            case 2 -> {
                code(p, 0, 5, 0, 0, pick(0, 1, 2, 3, p, p, 4, -1));
                code(p, 9, 1, 5, slot + 2, 0);
            }
            case 3, 4, 5 -> invocation(p);
            case 6 -> {
                code(p, 8, 1, 1, slot + below(10), 0);
                code(p, 14, 0, 0, 0, pick(0, 2));
                code(p, 0, 1, 0, 0, 2000);
            }
            case 7 -> {
                code(p, 0, 1, 0, 0, below(16) - 8);
                code(p, 14, 0, 0, 0, 3);
                code(p, 1, 1, 0, 0, 0);
                code(p, 14, 0, 0, 0, 0);
                code(p, 0, 1, 0, 0, 2000);
            }
            default -> scramble(p);
        }
    }

    private void moveMoney(int p, int from, int to) {
        int amount = pick(1, 10, 87, 95, 100, 101);
        code(p, 8, 5, 1, from + 3, 0);
        code(p, 2, 5, 0, 0, -amount);
        code(p, 9, 1, 5, from + 3, 0);
        code(p, 8, 5, 1, to + 3, 0);
        code(p, 2, 5, 0, 0, oneIn(8) ? amount + 1 : amount);
        code(p, 9, 1, 5, to + 3, 0);
    }

    private void invocation(int p) {
        int asked = 0;
        for (int i = below(5); i > 0; i--) {
            asked = asked << 8 | (oneIn(8) ? below(256) : 16 | pick(0, 8, 12) | pick(0, 0, 1, 1, 2, 3));
        }
        if (oneIn(3)) {
            asked = 0x191C;
        }
        code(p, 0, 1, 0, 0, oneIn(30) ? pick(-1, 4) : below(4));
        code(p, 0, 2, 0, 0, asked);
        if (!oneIn(3)) {
            code(p, 0, 3, 0, 0, systemArgument());
        }
        code(p, 0, 4, 0, 0, below(8));
        code(p, 14, 0, 0, 0, 1);
        code(p, 0, 1, 0, 0, 2000);
    }

    private void scramble(int p) {
        for (int i = 1 + below(4); i > 0; i--) {
            int kind = oneIn(60) ? pick(-1, 16) : below(15);
            int d = oneIn(100) ? pick(-1, 10) : 4 + below(6);
            int s = oneIn(100) ? pick(-1, 10) : pick(0, 1, 2, 3, 5, 6, 7, 8, 9);
            int n = switch (kind) {
                case 14 -> oneIn(30) ? pick(-1, 4) : pick(0, 2, 3);
                case 7 -> oneIn(30) ? pick(-1, 64) : below(64);
                case 6 -> oneIn(30) ? 0 : pick(-3, -1, 2, 10);
                default -> pick(-2, 0, 1, 3, 1000, 1010, Integer.MAX_VALUE, Integer.MIN_VALUE);
            };
            int offset = kind == 8 || kind == 9 ? pick(0, 3, 5, -1000, -995, 12) : pick(-4, -1, 0, 0, 0, 1, 1, 2);
            if (kind == 9) {
                d = pick(1, 1, d);
            }
            code(p, kind, d, s, offset, n);
        }
    }
}
