import java.util.ArrayDeque;
import java.util.ArrayList;
import java.util.HashMap;
import java.util.List;
import java.util.Map;

/** A second reading of the document, written for plainness alone: RandomRunsTest compares the machine with it. */
final class Model {
    static final class Wrong extends Exception {
        private static final long serialVersionUID = 1L;
        final int what;

        Wrong(int what) {
            super(null, null, false, false);
            this.what = what;
        }
    }

    record Instruction(int kind, int d, int s, int offset, int n) { }

    record Slot(int account, boolean signed, boolean writable) { }

    static final class Account {
        int balance = 100;
        int owner = 0;
        int[] data = {};

        Account copy() {
            Account copy = new Account();
            copy.balance = balance;
            copy.owner = owner;
            copy.data = data.clone();
            return copy;
        }
    }

    static final class Order {
        final int program;
        final int argument;
        final List<Slot> slots = new ArrayList<>();

        Order(int program, int argument) {
            this.program = program;
            this.argument = argument;
        }

        boolean signed(int a) {
            return slots.stream().anyMatch(slot -> slot.account == a && slot.signed);
        }

        boolean writable(int a) {
            return slots.stream().anyMatch(slot -> slot.account == a && slot.writable);
        }

        int mainSlot(int a) {
            return slots.stream().map(Slot::account).toList().indexOf(a);
        }
    }

    private final List<List<Instruction>> code = new ArrayList<>();
    private final boolean[] canRun = {true, false, false, false};
    private Account[] accounts = new Account[8];
    private final List<Order> orders = new ArrayList<>();
    private final ArrayDeque<Integer> underWay = new ArrayDeque<>();
    private final List<Long> log = new ArrayList<>();
    private long result = 0;
    private int meter = 0;

    Model() {
        for (int p = 0; p < 4; p++) {
            code.add(new ArrayList<>());
        }
        for (int a = 0; a < 8; a++) {
            accounts[a] = new Account();
        }
    }

    int code(int p, int kind, int d, int s, int offset, int n) {
        if (p < 1 || p > 3 || code.get(p).size() == 32) {
            return -1;
        }
        canRun[p] = false;
        code.get(p).add(new Instruction(kind, d, s, offset, n));
        return code.get(p).size() - 1;
    }

    int wipe(int p) {
        if (p < 1 || p > 3) {
            return -1;
        }
        int had = code.get(p).size();
        code.get(p).clear();
        canRun[p] = false;
        return had;
    }

    int load(int p) {
        if (p < 1 || p > 3) {
            return -1;
        }
        if (code.get(p).isEmpty()) {
            return 1;
        }
        for (int place = 0; place < code.get(p).size(); place++) {
            int reason = reason(code.get(p), place);
            if (reason != 0) {
                return 100 * place + reason;
            }
        }
        canRun[p] = true;
        return 0;
    }

    private static int reason(List<Instruction> code, int place) {
        Instruction i = code.get(place);
        if (i.kind < 0 || i.kind > 15 || i.d < 0 || i.d > 9 || i.s < 0 || i.s > 9) {
            return 2;
        }
        List<Long> next = new ArrayList<>();
        switch (i.kind) {
            case 10 -> next.add(place + 1L + i.offset);
            case 11, 12, 13 -> {
                next.add(place + 1L + i.offset);
                next.add(place + 1L);
            }
            case 15 -> { }
            default -> next.add(place + 1L);
        }
        for (long at : next) {
            if (at < 0 || at >= code.size()) {
                return 3;
            }
        }
        if (i.kind == 6 && i.n == 0) {
            return 4;
        }
        if (i.kind == 7 && (i.n < 0 || i.n > 63)) {
            return 4;
        }
        if (i.kind == 14 && (i.n < 0 || i.n > 3)) {
            return 5;
        }
        return 0;
    }

    int order(int p, int argument) {
        if (p < 0 || p > 3 || orders.size() == 3) {
            return -1;
        }
        orders.add(new Order(p, argument));
        return orders.size() - 1;
    }

    boolean slot(int a, int marks) {
        if (orders.isEmpty() || a < 0 || a > 7 || marks < 0 || marks > 3) {
            return false;
        }
        List<Slot> slots = orders.get(orders.size() - 1).slots;
        if (slots.size() == 4) {
            return false;
        }
        slots.add(new Slot(a, marks % 2 == 1, marks >= 2));
        return true;
    }

    int run(int units) {
        if (orders.isEmpty() || units < 0 || units > 2000) {
            return -1;
        }
        meter = units;
        log.clear();
        result = 0;
        Account[] before = new Account[8];
        for (int a = 0; a < 8; a++) {
            before[a] = accounts[a].copy();
        }
        int number = 0;
        int answer = 0;
        try {
            for (; number < orders.size(); number++) {
                underWay.clear();
                carryOut(orders.get(number), 1);
            }
            number = 3;
            for (Order order : orders) {
                for (Slot slot : order.slots) {
                    Account account = accounts[slot.account];
                    if (slot.writable && account.balance != 0 && account.balance < 5 + 2 * account.data.length) {
                        throw new Wrong(14);
                    }
                }
            }
        } catch (Wrong wrong) {
            accounts = before;
            answer = wrong.what + 100 * number;
        }
        orders.clear();
        return answer;
    }

    int units() {
        return meter;
    }

    long result() {
        return result;
    }

    long log(int i) {
        return i >= 0 && i < logged() ? log.get(i) : 0;
    }

    int logged() {
        return Math.min(30, log.size());
    }

    int account(int a, int what) {
        if (a < 0 || a > 7 || what < 0 || what > 2) {
            return -1;
        }
        return new int[] {accounts[a].balance, accounts[a].owner, accounts[a].data.length}[what];
    }

    int data(int a, int i) {
        return a < 0 || a > 7 || i < 0 || i >= accounts[a].data.length ? 0 : accounts[a].data[i];
    }

    private void take(int units) throws Wrong {
        if (meter < units) {
            meter = 0;
            throw new Wrong(3);
        }
        meter -= units;
    }

    private static void demand(boolean holds, int otherwise) throws Wrong {
        if (!holds) {
            throw new Wrong(otherwise);
        }
    }

    private void carryOut(Order order, int depth) throws Wrong {
        demand(canRun[order.program], 1);
        if (order.program == 0) {
            system(order);
            return;
        }
        underWay.push(order.program);
        runProgram(order, depth);
        underWay.pop();
    }

    private void system(Order order) throws Wrong {
        take(2);
        int v = Math.floorDiv(order.argument, 4);
        int what = Math.floorMod(order.argument, 4);
        int slots = order.slots.size();
        demand(what != 3 && slots > 0, 13);
        int first = order.slots.get(0).account;
        boolean full = order.signed(first) && order.writable(first);
        Account account = accounts[first];
        if (what == 0) {
            demand(slots > 1 && v >= 0 && first != order.slots.get(1).account, 13);
            int second = order.slots.get(1).account;
            demand(full && order.writable(second), 10);
            demand(account.owner == 0 && account.data.length == 0 && account.balance >= v, 7);
            demand(accounts[second].balance + (long) v <= 1000000, 7);
            account.balance -= v;
            accounts[second].balance += v;
        } else if (what == 1) {
            demand(v >= 1 && v <= 3, 13);
            demand(full, 10);
            demand(account.owner == 0, 7);
            account.owner = v;
        } else {
            demand(v >= 0 && v <= 4, 13);
            demand(full, 10);
            demand(account.owner == 0 && account.data.length == 0, 7);
            account.data = new int[v];
        }
    }

    private void see(Order order, Map<Long, Long> memory) {
        for (int i = 0; i < order.slots.size(); i++) {
            int a = order.slots.get(i).account;
            if (order.mainSlot(a) == i) {
                long base = 2000 + 10 * i;
                memory.put(base + 2, (long) accounts[a].owner);
                memory.put(base + 3, (long) accounts[a].balance);
                memory.put(base + 4, (long) accounts[a].data.length);
                for (int k = 0; k < 4; k++) {
                    memory.put(base + 5 + k, k < accounts[a].data.length ? (long) accounts[a].data[k] : 0L);
                }
            }
        }
    }

    private Map<Long, Long> layOut(Order order) {
        Map<Long, Long> memory = new HashMap<>();
        for (long at = 1000; at <= 1015; at++) {
            memory.put(at, 0L);
        }
        for (int i = 0; i < order.slots.size(); i++) {
            long base = 2000 + 10 * i;
            for (int k = 0; k < 10; k++) {
                memory.put(base + k, 0L);
            }
            int a = order.slots.get(i).account;
            if (order.mainSlot(a) == i) {
                memory.put(base, (long) a);
                memory.put(base + 1, (order.signed(a) ? 1L : 0L) + (order.writable(a) ? 2L : 0L));
            } else {
                memory.put(base, -1L - order.mainSlot(a));
            }
        }
        see(order, memory);
        return memory;
    }

    private boolean mayStore(Order order, long at) {
        if (at >= 1000 && at <= 1015) {
            return true;
        }
        for (int i = 0; i < order.slots.size(); i++) {
            int a = order.slots.get(i).account;
            long word = at - 2000 - 10 * i;
            if (order.mainSlot(a) == i
                    && (word == 2 || word == 3 || word >= 5 && word <= 4 + accounts[a].data.length)) {
                return true;
            }
        }
        return false;
    }

    private void handBack(Order order, Map<Long, Long> memory) throws Wrong {
        long sumThere = 0;
        long sumHere = 0;
        for (int i = 0; i < order.slots.size(); i++) {
            int a = order.slots.get(i).account;
            if (order.mainSlot(a) != i) {
                continue;
            }
            Account account = accounts[a];
            boolean writable = order.writable(a);
            boolean owned = account.owner == order.program;
            long owner = memory.get(2000L + 10 * i + 2);
            long balance = memory.get(2000L + 10 * i + 3);
            demand(owner == 0 || owner == 1 || owner == 2 || owner == 3, 6);
            boolean zero = true;
            boolean differs = false;
            for (int k = 0; k < account.data.length; k++) {
                int word = memory.get(2000L + 10 * i + 5 + k).intValue();
                zero &= word == 0;
                differs |= word != account.data[k];
            }
            demand(owner == account.owner || writable && owned && zero, 7);
            demand(balance >= 0 && balance <= 1000000, 7);
            demand(balance >= account.balance || writable && owned, 7);
            demand(balance <= account.balance || writable, 7);
            demand(!differs || writable && owned, 7);
            sumThere += balance;
            sumHere += account.balance;
        }
        demand(sumThere == sumHere, 8);
        for (int i = 0; i < order.slots.size(); i++) {
            int a = order.slots.get(i).account;
            if (order.mainSlot(a) == i) {
                accounts[a].owner = memory.get(2000L + 10 * i + 2).intValue();
                accounts[a].balance = memory.get(2000L + 10 * i + 3).intValue();
                for (int k = 0; k < accounts[a].data.length; k++) {
                    accounts[a].data[k] = memory.get(2000L + 10 * i + 5 + k).intValue();
                }
            }
        }
    }

    private void runProgram(Order order, int depth) throws Wrong {
        Map<Long, Long> memory = layOut(order);
        long[] r = new long[10];
        r[1] = 2000;
        r[2] = order.slots.size();
        r[3] = order.argument;
        ArrayDeque<Integer> places = new ArrayDeque<>();
        int place = 0;
        while (true) {
            take(1);
            Instruction i = code.get(order.program).get(place);
            int next = place + 1;
            int target = place + 1 + i.offset;
            switch (i.kind) {
                case 0 -> r[i.d] = i.n;
                case 1 -> r[i.d] = r[i.s];
                case 2 -> r[i.d] = r[i.d] + i.n;
                case 3 -> r[i.d] = r[i.d] + r[i.s];
                case 4 -> r[i.d] = r[i.d] - r[i.s];
                case 5 -> r[i.d] = r[i.d] * i.n;
                case 6 -> r[i.d] = r[i.d] / i.n;
                case 7 -> r[i.d] = r[i.d] << i.n;
                case 8 -> {
                    demand(memory.containsKey(r[i.s] + i.offset), 2);
                    r[i.d] = memory.get(r[i.s] + i.offset);
                }
                case 9 -> {
                    demand(mayStore(order, r[i.d] + i.offset), 2);
                    memory.put(r[i.d] + i.offset, r[i.s]);
                }
                case 10 -> next = target;
                case 11 -> next = r[i.d] == i.n ? target : next;
                case 12 -> next = r[i.d] < r[i.s] ? target : next;
                case 13 -> {
                    demand(places.size() < 4, 4);
                    places.push(next);
                    next = target;
                }
                case 14 -> service(i.n, order, memory, r, depth);
                default -> {
                    if (places.isEmpty()) {
                        demand(r[0] == 0, 5);
                        handBack(order, memory);
                        return;
                    }
                    next = places.pop();
                }
            }
            place = next;
        }
    }

    private void service(int n, Order order, Map<Long, Long> memory, long[] r, int depth) throws Wrong {
        take(new int[] {1, 5, 1, 3}[n]);
        switch (n) {
            case 0 -> log.add(r[1]);
            case 1 -> {
                invoke(order, memory, r, depth);
                r[0] = 0;
            }
            case 2 -> result = r[1];
            default -> r[0] = Math.floorMod(3 * order.program + r[1], 8L);
        }
    }

    private void invoke(Order order, Map<Long, Long> memory, long[] r, int depth) throws Wrong {
        demand(r[1] >= 0 && r[1] <= 3 && canRun[(int) r[1]], 1);
        Order inner = new Order((int) r[1], (int) r[3]);
        List<Integer> asked = new ArrayList<>();
        for (int i = 0; i < 4; i++) {
            int bits = (int) (r[2] >>> (8 * i)) & 255;
            if ((bits & 16) == 0) {
                break;
            }
            asked.add(bits);
        }
        for (int bits : asked) {
            demand(bits % 4 < order.slots.size(), 9);
        }
        long seat = Math.floorMod(3 * order.program + r[4], 8L);
        for (int bits : asked) {
            int a = order.slots.get(bits % 4).account;
            boolean signed = (bits & 4) != 0;
            boolean writable = (bits & 8) != 0;
            demand(!signed || order.signed(a) || a == seat, 10);
            demand(!writable || order.writable(a), 10);
            inner.slots.add(new Slot(a, signed, writable));
        }
        demand(inner.program == order.program || inner.program == 0 || !underWay.contains(inner.program), 11);
        demand(depth < 4, 12);
        handBack(order, memory);
        carryOut(inner, depth + 1);
        see(order, memory);
    }
}
