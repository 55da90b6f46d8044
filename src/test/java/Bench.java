import java.util.ArrayList;
import java.util.Collections;
import java.util.List;

/** What the tests share: an object to test, a small assembler for its code, and a count of wrong answers. */
final class Bench {
    private static final List<String> KINDS = List.of("SET", "COPY", "ADDN", "ADD", "SUB", "MULN", "DIVN", "LEFT",
            "LOAD", "STORE", "GO", "IFN", "IFLESS", "CALL", "SERVICE", "END");
    private static final List<String> SERVICES = List.of("LOG", "INVOKE", "GIVE", "SEAT");
    /** Which parts of an instruction a line names behind its kind: d, s, n, or o for the offset. */
    private static final String[] PARTS = {"dn", "ds", "dn", "ds", "ds", "dn", "dn", "dn", "dso", "dos", "o", "dno",
        "dso", "o", "n", ""};

    private static int wrong = 0;
    private static String part = "";

    AccountMachine x = new AccountMachine();

    static void part(String name) {
        part = name;
    }

    static void due(String call, long got, long want) {
        if (got != want) {
            wrong++;
            System.out.println(part + ": " + call + " answered " + got + ", due is " + want);
        }
    }

    static void due(String call, boolean got, boolean want) {
        due(call, got ? 1 : 0, want ? 1 : 0);
    }

    static void end() {
        System.out.println(wrong == 0 ? "all answers are as due" : wrong + " answers are not as due");
        if (wrong != 0) {
            System.exit(1);
        }
    }

    /** Appends lines such as "LOAD 5 1 3" (5 = word at register 1 + 3) or "STORE 1 3 5" to a program. */
    void append(int p, String... lines) {
        for (String line : lines) {
            String[] words = line.split(" ");
            int service = SERVICES.indexOf(words[0]);
            if (service >= 0) {
                words = new String[] {"SERVICE", "" + service};
            }
            int kind = KINDS.indexOf(words[0]);
            int[] values = new int[128];
            // What a kind does not use may be anything that load lets through, and must not count.
            values['d'] = 7;
            values['s'] = 8;
            values['o'] = 12345;
            values['n'] = -77;
            for (int i = 0; i < PARTS[kind].length(); i++) {
                values[PARTS[kind].charAt(i)] = Integer.parseInt(words[i + 1]);
            }
            x.code(p, kind, values['d'], values['s'], values['o'], values['n']);
        }
    }

    /** The lines that set a register to a long, which no single SET can do. */
    static String[] wide(int register, long value) {
        int lower = (int) value;
        return new String[] {"SET " + register + " " + (int) ((value - lower) >> 32), "LEFT " + register + " 32",
            "ADDN " + register + " " + lower};
    }

    /** Several lines, or rows of lines, as one row. */
    static String[] lines(Object... parts) {
        List<String> all = new ArrayList<>();
        for (Object each : parts) {
            if (each instanceof String[] row) {
                Collections.addAll(all, row);
            } else {
                all.add((String) each);
            }
        }
        return all.toArray(new String[0]);
    }

    /** Makes the lines the whole code of a program, and loads it. */
    void program(int p, String... lines) {
        x.wipe(p);
        append(p, lines);
        due("load(" + p + ")", x.load(p), 0);
    }

    /** Adds an order with slots: each an account and its marks. */
    void order(int p, int argument, int... slots) {
        x.order(p, argument);
        for (int i = 0; i < slots.length; i += 2) {
            x.slot(slots[i], slots[i + 1]);
        }
    }

    /** Runs one order alone. */
    int run(int units, int p, int argument, int... slots) {
        order(p, argument, slots);
        return x.run(units);
    }

    /** Gives an account so many data words, and then a program as its owner. */
    void own(int a, int p, int size) {
        order(0, 4 * size + 2, a, 3);
        if (p != 0) {
            order(0, 4 * p + 1, a, 3);
        }
        due("run of own(" + a + ", " + p + ", " + size + ")", x.run(4), 0);
    }

    void dueAccount(int a, int balance, int owner, int size) {
        due("account(" + a + ", 0)", x.account(a, 0), balance);
        due("account(" + a + ", 1)", x.account(a, 1), owner);
        due("account(" + a + ", 2)", x.account(a, 2), size);
    }

    void dueLog(long... words) {
        due("logged()", x.logged(), words.length);
        for (int i = 0; i < words.length; i++) {
            due("log(" + i + ")", x.log(i), words[i]);
        }
        due("log(" + words.length + ")", x.log(words.length), 0);
    }
}
