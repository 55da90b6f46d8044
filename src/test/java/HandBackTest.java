/** What is compared and what the accounts get when memory is handed back (promise 7). */
public final class HandBackTest {
    private static final int ILLEGAL = AccountMachine.ILLEGAL, NO_OWNER = AccountMachine.NO_OWNER;
    private static final int UNEVEN = AccountMachine.UNEVEN;
    private static final int OWNER = 2, BALANCE = 3, DATA = 5;

    public static void main(String[] args) {
        owner();
        ownerWithData();
        balance();
        bounds();
        sums();
        data();
        sequence();
        repeated();
        Bench.end();
    }

    /** Accounts 0 and 1 are the system's, 2 and 3 program 1's, 4 program 2's; 2 and 4 have two words, 5 has one. */
    private static Bench bench() {
        Bench b = new Bench();
        b.own(2, 1, 2);
        b.own(3, 1, 0);
        b.own(4, 2, 2);
        b.own(5, 0, 1);
        return b;
    }

    /** Makes program 1 store numbers: pairs of a word behind 2000 and what is stored there. */
    private static void stores(Bench b, int... pairs) {
        b.x.wipe(1);
        for (int i = 0; i < pairs.length; i += 2) {
            b.append(1, "SET 5 " + pairs[i + 1], "STORE 1 " + pairs[i] + " 5");
        }
        b.append(1, "END");
        Bench.due("load(1)", b.x.load(1), 0);
    }

    private static void owner() {
        Bench.part("owner");
        for (int wrong : new int[] {-1, 4, Integer.MIN_VALUE, Integer.MAX_VALUE}) {
            Bench b = bench();
            stores(b, OWNER, wrong);
            Bench.due("owner " + wrong, b.run(9, 1, 0, 2, 2), NO_OWNER);
            Bench.due("owner " + wrong + " for one not writable", b.run(9, 1, 0, 0, 0), NO_OWNER);
        }
        Bench big = bench();
        big.program(1, "SET 5 1", "LEFT 5 32", "ADDN 5 1", "STORE 1 2 5", "END");
        Bench.due("owner 2^32 + 1", big.run(9, 1, 0, 2, 2), NO_OWNER);
        for (int owner = 0; owner <= 3; owner++) {
            Bench b = bench();
            stores(b, OWNER, owner);
            Bench.due("owner " + owner + " of 4", b.run(9, 1, 0, 4, 3), owner == 2 ? 0 : ILLEGAL);
            Bench.due("owner " + owner + " of 0", b.run(9, 1, 0, 0, 3), owner == 0 ? 0 : ILLEGAL);
            Bench.due("owner " + owner + " of 2, signed", b.run(9, 1, 0, 2, 1), owner == 1 ? 0 : ILLEGAL);
            Bench.due("owner " + owner + " of 2", b.run(9, 1, 0, 2, 2), 0);
            b.dueAccount(2, 100, owner, 2);
            Bench.due("owner " + owner + " of 3", b.run(9, 1, 0, 3, 0, 3, 2), 0);
            b.dueAccount(3, 100, owner, 0);
        }
    }

    private static void ownerWithData() {
        Bench.part("owner of one with data");
        Bench b = bench();
        stores(b, DATA + 1, 6);
        Bench.due("run", b.run(9, 1, 0, 2, 2), 0);
        stores(b, OWNER, 3);
        Bench.due("data before", b.run(9, 1, 0, 2, 2), ILLEGAL);
        stores(b, OWNER, 3, DATA, 1, DATA + 1, 0);
        Bench.due("data now", b.run(9, 1, 0, 2, 2), ILLEGAL);
        b.program(1, "SET 5 1", "LEFT 5 32", "STORE 1 6 5", "SET 5 3", "STORE 1 2 5", "END");
        Bench.due("2^32 is 0 as an int", b.run(9, 1, 0, 2, 2), 0);
        b.dueAccount(2, 100, 3, 2);
        Bench.due("data(2, 1)", b.x.data(2, 1), 0);
        stores(b, OWNER, 1);
        Bench.due("not its own any more", b.run(9, 1, 0, 2, 2), ILLEGAL);
    }

    private static void balance() {
        Bench.part("balance");
        // Ten from slot 0 to slot 1.
        int[][] rows = {{2, 2, 0, 2, 0}, {2, 2, 4, 2, 0}, {2, 3, 3, 2, 0}, {2, 0, 0, 2, ILLEGAL}, {2, 1, 0, 2, ILLEGAL},
            {2, 2, 0, 0, ILLEGAL}, {2, 2, 0, 1, ILLEGAL}, {2, 2, 3, 1, ILLEGAL}, {0, 3, 2, 2, ILLEGAL},
            {4, 3, 2, 2, ILLEGAL}};
        for (int[] row : rows) {
            Bench b = bench();
            stores(b, BALANCE, 90, 10 + BALANCE, 110);
            int got = b.run(9, 1, 0, row[0], row[1], row[2], row[3]);
            Bench.due("from " + row[0] + " to " + row[2], got, row[4]);
            b.dueAccount(row[0], got == 0 ? 90 : 100, b.x.account(row[0], 1), b.x.account(row[0], 2));
            b.dueAccount(row[2], got == 0 ? 110 : 100, b.x.account(row[2], 1), b.x.account(row[2], 2));
        }
        Bench b = bench();
        stores(b, BALANCE, 100);
        Bench.due("the same balance is no change", b.run(9, 1, 0, 0, 0), 0);
    }

    private static void bounds() {
        Bench.part("bounds of balances");
        Bench b = bench();
        stores(b, BALANCE, -1, 10 + BALANCE, 201);
        Bench.due("below 0", b.run(9, 1, 0, 2, 2, 3, 2), ILLEGAL);
        stores(b, BALANCE, 0, 10 + BALANCE, 200);
        Bench.due("0", b.run(9, 1, 0, 2, 2, 3, 2), 0);
        b.dueAccount(2, 0, 1, 2);
        b.dueAccount(3, 200, 1, 0);
        stores(b, BALANCE, 1000001);
        Bench.due("above 1000000", b.run(9, 1, 0, 2, 2), ILLEGAL);
        stores(b, BALANCE, 1000000);
        Bench.due("1000000", b.run(9, 1, 0, 2, 2), UNEVEN);
        b.program(1, "SET 5 1", "LEFT 5 32", "STORE 1 3 5", "END");
        Bench.due("2^32", b.run(9, 1, 0, 2, 2), ILLEGAL);
    }

    private static void sums() {
        Bench.part("sums");
        Bench b = bench();
        stores(b, BALANCE, 90);
        Bench.due("less in all", b.run(9, 1, 0, 2, 2), UNEVEN);
        Bench.due("less in all", b.run(9, 1, 0, 2, 2, 0, 2), UNEVEN);
        stores(b, BALANCE, 101);
        Bench.due("more in all", b.run(9, 1, 0, 0, 2), UNEVEN);
        stores(b, BALANCE, 90, 10 + BALANCE, 111);
        Bench.due("one too many", b.run(9, 1, 0, 2, 2, 0, 2), UNEVEN);
        b.dueAccount(2, 100, 1, 2);
        stores(b, BALANCE, 70, 10 + BALANCE, 95, 20 + BALANCE, 101, 30 + BALANCE, 134);
        Bench.due("four accounts", b.run(9, 1, 0, 2, 2, 3, 2, 0, 2, 4, 2), 0);
        b.dueAccount(2, 70, 1, 2);
        b.dueAccount(3, 95, 1, 0);
        b.dueAccount(0, 101, 0, 0);
        b.dueAccount(4, 134, 2, 2);
    }

    private static void data() {
        Bench.part("data");
        int[][] rows = {{2, 2, 0}, {2, 3, 0}, {2, 0, ILLEGAL}, {2, 1, ILLEGAL}, {4, 3, ILLEGAL}, {5, 3, ILLEGAL}};
        for (int[] row : rows) {
            Bench b = bench();
            stores(b, DATA, -8);
            Bench.due("data of " + row[0] + " with " + row[1], b.run(9, 1, 0, row[0], row[1]), row[2]);
            Bench.due("data(" + row[0] + ", 0)", b.x.data(row[0], 0), row[2] == 0 ? -8 : 0);
            stores(b, DATA, 0);
            Bench.due("the same data", b.run(9, 1, 0, 5, 0, 4, 0), 0);
        }
        Bench b = bench();
        b.program(1, "SET 5 3", "LEFT 5 32", "STORE 1 5 5", "END");
        Bench.due("3 * 2^32 is no change of 0", b.run(9, 1, 0, 4, 0), 0);
        b.program(1, "SET 5 3", "LEFT 5 31", "STORE 1 6 5", "END");
        Bench.due("3 * 2^31", b.run(9, 1, 0, 2, 2), 0);
        Bench.due("data(2, 1)", b.x.data(2, 1), Integer.MIN_VALUE);
        Bench.due("data(2, 0)", b.x.data(2, 0), 0);
        stores(b, DATA + 1, 4);
        Bench.due("the second word", b.run(9, 1, 0, 4, 3), ILLEGAL);
    }

    private static void sequence() {
        Bench.part("the sequence of what goes wrong");
        Bench b = bench();
        stores(b, OWNER, 4, BALANCE, -1);
        Bench.due("NO_OWNER before ILLEGAL", b.run(9, 1, 0, 2, 2), NO_OWNER);
        stores(b, BALANCE, -1, 10 + OWNER, 4);
        Bench.due("slot 0 before slot 1", b.run(9, 1, 0, 2, 2, 3, 2), ILLEGAL);
        stores(b, BALANCE, 90, 10 + OWNER, 4);
        Bench.due("UNEVEN behind all slots", b.run(9, 1, 0, 2, 2, 3, 2), NO_OWNER);
        stores(b, BALANCE, 90, 10 + BALANCE, 90);
        Bench.due("UNEVEN behind all slots", b.run(9, 1, 0, 2, 2, 3, 0), ILLEGAL);
        stores(b, BALANCE, 90, OWNER, 3, DATA, 0, 10 + BALANCE, 110, 10 + OWNER, 2);
        Bench.due("all at once", b.run(15, 1, 0, 2, 2, 3, 2), 0);
        b.dueAccount(2, 90, 3, 2);
        b.dueAccount(3, 110, 2, 0);
        b.program(1, "SET 5 9", "STORE 1 2 5", "SET 0 1", "END");
        Bench.due("FAILED before it is handed back", b.run(9, 1, 0, 2, 2), AccountMachine.FAILED);
    }

    private static void repeated() {
        Bench.part("repeated slots");
        Bench b = bench();
        stores(b, DATA, 5);
        Bench.due("writable by a repeated slot", b.run(9, 1, 0, 2, 0, 2, 2), 0);
        Bench.due("data(2, 0)", b.x.data(2, 0), 5);
        stores(b, BALANCE, 90, 20 + BALANCE, 110);
        Bench.due("sums without repeated slots", b.run(9, 1, 0, 2, 2, 2, 2, 0, 2, 0, 0), 0);
        b.dueAccount(2, 90, 1, 2);
        b.dueAccount(0, 110, 0, 0);
    }
}
