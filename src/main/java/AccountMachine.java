import java.util.Arrays;

/** Runs programs in a small code over accounts, in transactions that are done wholly or not at all. */
public final class AccountMachine {
    public static final int NONE = -1;
    public static final int NO_PROGRAM = 1, ACCESS = 2, METER = 3, DEEP = 4, FAILED = 5, NO_OWNER = 6, ILLEGAL = 7, UNEVEN = 8, NO_SLOT = 9, RIGHTS = 10, AGAIN = 11, LIMIT = 12, BAD = 13, RENT = 14;

    private static final int ACCOUNTS = 8, FIRST_BALANCE = 100, MOST_BALANCE = 1000000, MOST_DATA = 4;
    private static final int PROGRAMS = 4, MOST_CODE = 32, REGISTERS = 10, MOST_PLACES = 4;
    private static final int MOST_ORDERS = 3, MOST_SLOTS = 4, MOST_DEPTH = 4, MOST_UNITS = 2000, MOST_LOG = 30;
    private static final int SIGNED = 1, WRITABLE = 2, ALL_MARKS = 3;

    private static final int SET = 0, COPY = 1, ADDN = 2, ADD = 3, SUB = 4, MULN = 5, DIVN = 6, LEFT = 7;
    private static final int LOAD = 8, STORE = 9, GO = 10, IFN = 11, IFLESS = 12, CALL = 13, SERVICE = 14, END = 15;

    private static final int WRITE_LOG = 0, INVOKE = 1, GIVE = 2, SEAT = 3;
    private static final int[] SERVICE_UNITS = {1, 5, 1, 3};

    private static final int SYSTEM = 0, SYSTEM_UNITS = 2, TRANSFER = 0, ASSIGN = 1, ALLOCATE = 2;

    private static final int STACK_AT = 1000, STACK_WORDS = 16, SLOTS_AT = 2000, SLOT_WORDS = 10;
    private static final int NUMBER = 0, MARKS = 1, OWNER = 2, BALANCE = 3, SIZE = 4, DATA = 5;

    private final Program[] programs = new Program[PROGRAMS];
    private final Ledger ledger = new Ledger();
    private final Ledger before = new Ledger();
    private final Order[] orders = new Order[MOST_ORDERS];
    private int orderCount = 0;
    private final Frame[] frames = new Frame[MOST_DEPTH];
    private int depth = 0;
    private int meter = 0;
    private final long[] logWords = new long[MOST_LOG];
    private int logCount = 0;
    private long given = 0;

    public AccountMachine() {
        for (int p = 0; p < PROGRAMS; p++) {
            programs[p] = new Program();
        }
        for (int i = 0; i < MOST_ORDERS; i++) {
            orders[i] = new Order();
        }
        for (int t = 0; t < MOST_DEPTH; t++) {
            frames[t] = new Frame();
        }
    }

    public int code(int p, int kind, int d, int s, int offset, int n) {
        if (!hasCode(p) || programs[p].count >= MOST_CODE) {
            return NONE;
        }
        return programs[p].append(kind, d, s, offset, n);
    }

    public int wipe(int p) {
        return hasCode(p) ? programs[p].clear() : NONE;
    }

    public int load(int p) {
        return hasCode(p) ? programs[p].check() : NONE;
    }

    public int order(int p, int argument) {
        if (p < 0 || p >= PROGRAMS || orderCount >= MOST_ORDERS) {
            return NONE;
        }
        orders[orderCount].reset(p, argument);
        return orderCount++;
    }

    public boolean slot(int a, int marks) {
        if (orderCount == 0 || !isAccount(a) || marks < 0 || marks > ALL_MARKS) {
            return false;
        }
        return orders[orderCount - 1].addSlot(a, marks);
    }

    public int run(int units) {
        if (orderCount == 0 || units < 0 || units > MOST_UNITS) {
            return NONE;
        }
        meter = units;
        logCount = 0;
        given = 0;
        before.copyFrom(ledger);
        int wrong = 0;
        for (int i = 0; i < orderCount && wrong == 0; i++) {
            wrong = carryOut(orders[i]);
            if (wrong != 0) {
                wrong += 100 * i;
            }
        }
        if (wrong == 0 && owesRent()) {
            wrong = RENT + 100 * MOST_ORDERS;
        }
        if (wrong != 0) {
            ledger.copyFrom(before);
        }
        orderCount = 0;
        return wrong;
    }

    public int units() {
        return meter;
    }

    public long result() {
        return given;
    }

    public long log(int i) {
        return i >= 0 && i < logCount ? logWords[i] : 0;
    }

    public int logged() {
        return logCount;
    }

    public int account(int a, int what) {
        if (!isAccount(a)) {
            return NONE;
        }
        switch (what) {
            case 0:
                return ledger.balances[a];
            case 1:
                return ledger.owners[a];
            case 2:
                return ledger.sizes[a];
            default:
                return NONE;
        }
    }

    public int data(int a, int i) {
        return isAccount(a) && i >= 0 && i < ledger.sizes[a] ? ledger.words[a * MOST_DATA + i] : 0;
    }

    private static boolean hasCode(int p) {
        return p > SYSTEM && p < PROGRAMS;
    }

    private static boolean isAccount(int a) {
        return a >= 0 && a < ACCOUNTS;
    }

    private boolean canRun(int p) {
        return p == SYSTEM || programs[p].sound;
    }

    /** Where there are too few units, what is left is lost too. */
    private boolean takeUnits(int n) {
        boolean enough = meter >= n;
        meter = enough ? meter - n : 0;
        return enough;
    }

    private boolean owesRent() {
        for (int i = 0; i < orderCount; i++) {
            Order order = orders[i];
            for (int slot = 0; slot < order.count; slot++) {
                int a = order.accounts[slot];
                boolean poor = ledger.balances[a] != 0 && ledger.balances[a] < 5 + 2 * ledger.sizes[a];
                if (poor && (order.marks[slot] & WRITABLE) != 0) {
                    return true;
                }
            }
        }
        return false;
    }

    /** Carries out an order of the transaction: what went wrong, or 0. */
    private int carryOut(Order order) {
        if (!canRun(order.program)) {
            return NO_PROGRAM;
        }
        if (order.program == SYSTEM) {
            return doSystem(order);
        }
        frames[0].order.copyFrom(order);
        frames[0].begin(ledger);
        depth = 1;
        int wrong = 0;
        // Every step takes a unit or goes wrong, so the steps can't outnumber the units by more than one.
        for (int steps = 0; steps <= MOST_UNITS && depth > 0 && wrong == 0; steps++) {
            wrong = step(frames[depth - 1]);
        }
        return wrong;
    }

    /** Does the next instruction of the program that runs: what went wrong, or 0. */
    private int step(Frame frame) {
        if (!takeUnits(1)) {
            return METER;
        }
        Program program = programs[frame.order.program];
        int place = frame.place;
        frame.place = place + 1;
        switch (program.kinds[place]) {
            case LOAD:
            case STORE:
                return frame.reachMemory(program, place);
            case GO:
            case IFN:
            case IFLESS:
                frame.jump(program, place);
                return 0;
            case CALL:
                return frame.call(program, place);
            case SERVICE:
                return serve(frame, program.numbers[place]);
            case END:
                return frame.goBack() ? 0 : finish(frame);
            default:
                frame.reckon(program, place);
                return 0;
        }
    }

    private int finish(Frame frame) {
        if (frame.registers[0] != 0) {
            return FAILED;
        }
        int wrong = frame.handBack(ledger);
        depth--;
        if (wrong == 0 && depth > 0) {
            frames[depth - 1].resume(ledger);
        }
        return wrong;
    }

    private int serve(Frame frame, int service) {
        if (!takeUnits(SERVICE_UNITS[service])) {
            return METER;
        }
        switch (service) {
            case WRITE_LOG:
                writeLog(frame.registers[1]);
                return 0;
            case INVOKE:
                return invoke(frame);
            case GIVE:
                given = frame.registers[1];
                return 0;
            case SEAT:
                frame.registers[0] = seatOf(frame.order.program, frame.registers[1]);
                return 0;
            default:
                return 0;
        }
    }

    private void writeLog(long word) {
        if (logCount < MOST_LOG) {
            logWords[logCount] = word;
            logCount++;
        }
    }

    private static int seatOf(int p, long seed) {
        return (int) ((3 * p + seed) & (ACCOUNTS - 1));
    }

    private int invoke(Frame caller) {
        long q = caller.registers[1];
        if (q < 0 || q >= PROGRAMS || !canRun((int) q)) {
            return NO_PROGRAM;
        }
        int wrong = refusal(caller, (int) q);
        if (wrong == 0) {
            wrong = caller.handBack(ledger);
        }
        if (wrong != 0) {
            return wrong;
        }
        Frame callee = frames[depth];
        fillOrder(callee.order, caller);
        if (q == SYSTEM) {
            wrong = doSystem(callee.order);
            caller.resume(ledger);
            return wrong;
        }
        // The callee goes on with the next step, and the caller when the callee has finished.
        callee.begin(ledger);
        depth++;
        return 0;
    }

    private int refusal(Frame caller, int q) {
        long asked = caller.registers[2];
        int count = askedCount(asked);
        for (int i = 0; i < count; i++) {
            if (askedSlot(asked, i) >= caller.order.count) {
                return NO_SLOT;
            }
        }
        for (int i = 0; i < count; i++) {
            if (exceedsRights(caller, askedSlot(asked, i), askedMarks(asked, i))) {
                return RIGHTS;
            }
        }
        if (q != SYSTEM && q != caller.order.program && isUnderWay(q)) {
            return AGAIN;
        }
        return depth >= MOST_DEPTH ? LIMIT : 0;
    }

    private static boolean exceedsRights(Frame caller, int slot, int marks) {
        int a = caller.order.accounts[slot];
        int rights = caller.order.marksOf(a);
        if (a == seatOf(caller.order.program, caller.registers[4])) {
            rights |= SIGNED;
        }
        return (marks & ~rights) != 0;
    }

    private boolean isUnderWay(int q) {
        for (int t = 0; t < depth; t++) {
            if (frames[t].order.program == q) {
                return true;
            }
        }
        return false;
    }

    private static void fillOrder(Order order, Frame caller) {
        long asked = caller.registers[2];
        int count = askedCount(asked);
        order.reset((int) caller.registers[1], (int) caller.registers[3]);
        for (int i = 0; i < count; i++) {
            order.addSlot(caller.order.accounts[askedSlot(asked, i)], askedMarks(asked, i));
        }
    }

    private static int askedCount(long asked) {
        int count = 0;
        while (count < MOST_SLOTS && ((asked >> (8 * count)) & 16) != 0) {
            count++;
        }
        return count;
    }

    private static int askedSlot(long asked, int i) {
        return (int) ((asked >> (8 * i)) & 3);
    }

    private static int askedMarks(long asked, int i) {
        return (int) ((asked >> (8 * i + 2)) & ALL_MARKS);
    }

    private int doSystem(Order order) {
        if (!takeUnits(SYSTEM_UNITS)) {
            return METER;
        }
        int v = order.argument >> 2;
        switch (order.argument & 3) {
            case TRANSFER:
                return transfer(order, v);
            case ASSIGN:
                return assign(order, v);
            case ALLOCATE:
                return allocate(order, v);
            default:
                return BAD;
        }
    }

    private int transfer(Order order, int v) {
        if (order.count < 2 || v < 0 || order.accounts[0] == order.accounts[1]) {
            return BAD;
        }
        int from = order.accounts[0];
        int to = order.accounts[1];
        if (order.marksOf(from) != ALL_MARKS || (order.marksOf(to) & WRITABLE) == 0) {
            return RIGHTS;
        }
        // Looked at in this order, v is at most a balance when it is added, so the sum can't wrap.
        if (!ledger.isBlank(from) || ledger.balances[from] < v || ledger.balances[to] + v > MOST_BALANCE) {
            return ILLEGAL;
        }
        ledger.balances[from] -= v;
        ledger.balances[to] += v;
        return 0;
    }

    private int assign(Order order, int v) {
        if (order.count < 1 || v < 1 || v >= PROGRAMS) {
            return BAD;
        }
        int a = order.accounts[0];
        if (order.marksOf(a) != ALL_MARKS) {
            return RIGHTS;
        }
        if (ledger.owners[a] != SYSTEM) {
            return ILLEGAL;
        }
        ledger.owners[a] = v;
        return 0;
    }

    private int allocate(Order order, int v) {
        if (order.count < 1 || v < 0 || v > MOST_DATA) {
            return BAD;
        }
        int a = order.accounts[0];
        if (order.marksOf(a) != ALL_MARKS) {
            return RIGHTS;
        }
        if (!ledger.isBlank(a)) {
            return ILLEGAL;
        }
        // The data words are 0 already: only words within a size are ever written, and no size shrinks.
        ledger.sizes[a] = v;
        return 0;
    }

    /** A program's code, a row for each part of the instructions. */
    private static final class Program {
        private final int[] kinds = new int[MOST_CODE];
        private final int[] targets = new int[MOST_CODE];
        private final int[] sources = new int[MOST_CODE];
        private final int[] offsets = new int[MOST_CODE];
        private final int[] numbers = new int[MOST_CODE];
        private int count = 0;
        /** Whether it was loaded well since its code was changed: only then are its parts safe to use. */
        private boolean sound = false;

        private int append(int kind, int d, int s, int offset, int n) {
            kinds[count] = kind;
            targets[count] = d;
            sources[count] = s;
            offsets[count] = offset;
            numbers[count] = n;
            sound = false;
            return count++;
        }

        private int clear() {
            int had = count;
            count = 0;
            sound = false;
            return had;
        }

        private int check() {
            if (count == 0) {
                return 1;
            }
            for (int place = 0; place < count; place++) {
                int reason = reasonAt(place);
                if (reason != 0) {
                    return 100 * place + reason;
                }
            }
            sound = true;
            return 0;
        }

        private int reasonAt(int place) {
            int kind = kinds[place];
            int n = numbers[place];
            if (kind < SET || kind > END || !isRegister(targets[place]) || !isRegister(sources[place])) {
                return 2;
            }
            if (!goesOnInside(place)) {
                return 3;
            }
            if (kind == DIVN && n == 0 || kind == LEFT && (n < 0 || n > 63)) {
                return 4;
            }
            return kind == SERVICE && (n < 0 || n >= SERVICE_UNITS.length) ? 5 : 0;
        }

        private static boolean isRegister(int r) {
            return r >= 0 && r < REGISTERS;
        }

        private boolean goesOnInside(int place) {
            int kind = kinds[place];
            boolean jumps = kind >= GO && kind <= CALL;
            boolean passes = kind != GO && kind != END;
            return (!jumps || isPlace(place + 1L + offsets[place])) && (!passes || isPlace(place + 1L));
        }

        private boolean isPlace(long place) {
            return place >= 0 && place < count;
        }
    }

    /** All that the accounts have. */
    private static final class Ledger {
        private final int[] balances = new int[ACCOUNTS];
        private final int[] owners = new int[ACCOUNTS];
        private final int[] sizes = new int[ACCOUNTS];
        private final int[] words = new int[ACCOUNTS * MOST_DATA];

        private Ledger() {
            Arrays.fill(balances, FIRST_BALANCE);
        }

        private void copyFrom(Ledger other) {
            System.arraycopy(other.balances, 0, balances, 0, ACCOUNTS);
            System.arraycopy(other.owners, 0, owners, 0, ACCOUNTS);
            System.arraycopy(other.sizes, 0, sizes, 0, ACCOUNTS);
            System.arraycopy(other.words, 0, words, 0, ACCOUNTS * MOST_DATA);
        }

        private boolean isBlank(int a) {
            return owners[a] == SYSTEM && sizes[a] == 0;
        }
    }

    private static final class Order {
        private int program = SYSTEM;
        private int argument = 0;
        private int count = 0;
        private final int[] accounts = new int[MOST_SLOTS];
        private final int[] marks = new int[MOST_SLOTS];

        private void reset(int p, int newArgument) {
            program = p;
            argument = newArgument;
            count = 0;
        }

        private boolean addSlot(int a, int newMarks) {
            if (count >= MOST_SLOTS) {
                return false;
            }
            accounts[count] = a;
            marks[count] = newMarks;
            count++;
            return true;
        }

        private void copyFrom(Order other) {
            reset(other.program, other.argument);
            for (int slot = 0; slot < other.count; slot++) {
                addSlot(other.accounts[slot], other.marks[slot]);
            }
        }

        private int mainSlotOf(int a) {
            int slot = 0;
            while (slot < count && accounts[slot] != a) {
                slot++;
            }
            return slot;
        }

        /** The marks of an account in the whole order, from all of its slots. */
        private int marksOf(int a) {
            int all = 0;
            for (int slot = 0; slot < count; slot++) {
                if (accounts[slot] == a) {
                    all |= marks[slot];
                }
            }
            return all;
        }
    }

    /** A program that is carrying out an order: its registers, its memory, and where it is. */
    private static final class Frame {
        private final Order order = new Order();
        private final long[] registers = new long[REGISTERS];
        /** The stack, and behind it the slots. */
        private final long[] memory = new long[STACK_WORDS + MOST_SLOTS * SLOT_WORDS];
        private final int[] remembered = new int[MOST_PLACES];
        private int rememberedCount = 0;
        private int place = 0;

        private void begin(Ledger ledger) {
            Arrays.fill(memory, 0);
            Arrays.fill(registers, 0);
            registers[1] = SLOTS_AT;
            registers[2] = order.count;
            registers[3] = order.argument;
            rememberedCount = 0;
            place = 0;
            for (int slot = 0; slot < order.count; slot++) {
                int a = order.accounts[slot];
                int main = order.mainSlotOf(a);
                memory[baseOf(slot) + NUMBER] = main == slot ? a : -1 - main;
                memory[baseOf(slot) + MARKS] = main == slot ? order.marksOf(a) : 0;
            }
            seeAccounts(ledger);
        }

        private static int baseOf(int slot) {
            return STACK_WORDS + slot * SLOT_WORDS;
        }

        /** Programs can't store to a slot's first word, so its sign always tells what kind of slot it is. */
        private boolean isMain(int base) {
            return memory[base + NUMBER] >= 0;
        }

        private void seeAccounts(Ledger ledger) {
            for (int slot = 0; slot < order.count; slot++) {
                int base = baseOf(slot);
                if (isMain(base)) {
                    int a = order.accounts[slot];
                    memory[base + OWNER] = ledger.owners[a];
                    memory[base + BALANCE] = ledger.balances[a];
                    memory[base + SIZE] = ledger.sizes[a];
                    for (int i = 0; i < MOST_DATA; i++) {
                        memory[base + DATA + i] = ledger.words[a * MOST_DATA + i];
                    }
                }
            }
        }

        /** Goes on behind an INVOKE. */
        private void resume(Ledger ledger) {
            seeAccounts(ledger);
            registers[0] = 0;
        }

        private void reckon(Program program, int at) {
            int d = program.targets[at];
            int s = program.sources[at];
            int n = program.numbers[at];
            switch (program.kinds[at]) {
                case SET:
                    registers[d] = n;
                    break;
                case COPY:
                    registers[d] = registers[s];
                    break;
                case ADDN:
                    registers[d] += n;
                    break;
                case ADD:
                    registers[d] += registers[s];
                    break;
                case SUB:
                    registers[d] -= registers[s];
                    break;
                case MULN:
                    registers[d] *= n;
                    break;
                case DIVN:
                    registers[d] = n == 0 ? 0 : registers[d] / n;
                    break;
                case LEFT:
                    registers[d] <<= n;
                    break;
                default:
                    break;
            }
        }

        private int reachMemory(Program program, int at) {
            int d = program.targets[at];
            int s = program.sources[at];
            boolean stores = program.kinds[at] == STORE;
            int index = indexOf(registers[stores ? d : s] + program.offsets[at]);
            if (index == NONE || stores && !mayStore(index)) {
                return ACCESS;
            }
            if (stores) {
                memory[index] = registers[s];
            } else {
                registers[d] = memory[index];
            }
            return 0;
        }

        private int indexOf(long address) {
            if (address >= STACK_AT && address < STACK_AT + STACK_WORDS) {
                return (int) address - STACK_AT;
            }
            if (address >= SLOTS_AT && address < SLOTS_AT + order.count * SLOT_WORDS) {
                return baseOf(0) + (int) address - SLOTS_AT;
            }
            return NONE;
        }

        private boolean mayStore(int index) {
            if (index < STACK_WORDS) {
                return true;
            }
            int word = (index - STACK_WORDS) % SLOT_WORDS;
            int base = index - word;
            boolean isData = word >= DATA && word < DATA + memory[base + SIZE];
            return isMain(base) && (word == OWNER || word == BALANCE || isData);
        }

        private void jump(Program program, int at) {
            long tested = registers[program.targets[at]];
            boolean goes = true;
            if (program.kinds[at] == IFN) {
                goes = tested == program.numbers[at];
            } else if (program.kinds[at] == IFLESS) {
                goes = tested < registers[program.sources[at]];
            }
            if (goes) {
                place = at + 1 + program.offsets[at];
            }
        }

        private int call(Program program, int at) {
            if (rememberedCount >= MOST_PLACES) {
                return DEEP;
            }
            remembered[rememberedCount] = at + 1;
            rememberedCount++;
            place = at + 1 + program.offsets[at];
            return 0;
        }

        private boolean goBack() {
            if (rememberedCount == 0) {
                return false;
            }
            rememberedCount--;
            place = remembered[rememberedCount];
            return true;
        }

        /** Gives the accounts what stands in memory, if all of it is in order: what went wrong, or 0. */
        private int handBack(Ledger ledger) {
            long surplus = 0;
            for (int slot = 0; slot < order.count; slot++) {
                if (isMain(baseOf(slot))) {
                    int wrong = faultOf(slot, ledger);
                    if (wrong != 0) {
                        return wrong;
                    }
                    surplus += memory[baseOf(slot) + BALANCE] - ledger.balances[order.accounts[slot]];
                }
            }
            if (surplus != 0) {
                return UNEVEN;
            }
            for (int slot = 0; slot < order.count; slot++) {
                if (isMain(baseOf(slot))) {
                    writeAccount(slot, ledger);
                }
            }
            return 0;
        }

        private int faultOf(int slot, Ledger ledger) {
            int base = baseOf(slot);
            int a = order.accounts[slot];
            boolean writable = (memory[base + MARKS] & WRITABLE) != 0;
            boolean free = writable && ledger.owners[a] == order.program;
            long owner = memory[base + OWNER];
            long balance = memory[base + BALANCE];
            if (owner < 0 || owner >= PROGRAMS) {
                return NO_OWNER;
            }
            if (owner != ledger.owners[a] && (!free || hasData(base))) {
                return ILLEGAL;
            }
            if (balance < 0 || balance > MOST_BALANCE) {
                return ILLEGAL;
            }
            if (balance < ledger.balances[a] && !free || balance > ledger.balances[a] && !writable) {
                return ILLEGAL;
            }
            return !free && hasNewData(base, a, ledger) ? ILLEGAL : 0;
        }

        private boolean hasData(int base) {
            for (int i = 0; i < MOST_DATA; i++) {
                if ((int) memory[base + DATA + i] != 0) {
                    return true;
                }
            }
            return false;
        }

        private boolean hasNewData(int base, int a, Ledger ledger) {
            for (int i = 0; i < MOST_DATA; i++) {
                if ((int) memory[base + DATA + i] != ledger.words[a * MOST_DATA + i]) {
                    return true;
                }
            }
            return false;
        }

        private void writeAccount(int slot, Ledger ledger) {
            int base = baseOf(slot);
            int a = order.accounts[slot];
            ledger.owners[a] = (int) memory[base + OWNER];
            ledger.balances[a] = (int) memory[base + BALANCE];
            for (int i = 0; i < MOST_DATA; i++) {
                ledger.words[a * MOST_DATA + i] = (int) memory[base + DATA + i];
            }
        }
    }
}
