/**
 * One test for each sentence of the promises 1 to 13 that names a boundary case: too small, too large, empty, full, a
 * call that is refused. Each stands on both sides of its boundary, and a refused call is seen to have done nothing.
 */
public final class PromiseEdgesTest {
    private static final int NONE = AccountMachine.NONE;
    private static final int LEAST = Integer.MIN_VALUE, MOST = Integer.MAX_VALUE;
    private static final int END = 15;

    public static void main(String[] args) {
        newObjects();
        code();
        wipe();
        load();
        order();
        slot();
        run();
        unitsAndResult();
        log();
        account();
        data();
        Bench.end();
    }

    private static void newObjects() {
        newObjectHasNoCode();
        newObjectHasNoOrders();
        newObjectHasAccounts();
    }

    private static void newObjectHasNoCode() {
        Bench.part("1: no code");
        for (int p = 1; p <= 3; p++) {
            Bench b = new Bench();
            Bench.due("wipe(" + p + ")", b.x.wipe(p), 0);
            Bench.due("load(" + p + ")", b.x.load(p), 1);
            Bench.due("a run of " + p, b.run(5, p, 0), AccountMachine.NO_PROGRAM);
            Bench.due("the first place of " + p, b.x.code(p, END, 0, 0, 0, 0), 0);
        }
    }

    private static void newObjectHasNoOrders() {
        Bench.part("1: no orders");
        Bench b = new Bench();
        Bench.due("slot(0, 0)", b.x.slot(0, 0), false);
        Bench.due("run(5)", b.x.run(5), NONE);
        Bench.due("the first order", b.x.order(0, 0), 0);
    }

    private static void newObjectHasAccounts() {
        Bench.part("1: accounts as said above");
        Bench b = new Bench();
        for (int a = 0; a < 8; a++) {
            b.dueAccount(a, 100, 0, 0);
            for (int i = -1; i <= 4; i++) {
                Bench.due("data(" + a + ", " + i + ")", b.x.data(a, i), 0);
            }
        }
    }

    private static void code() {
        codeAnswersItsPlace();
        codeOfNoSuchProgram();
        codeOfAFullProgram();
        codeWithAnyParts();
    }

    private static void codeAnswersItsPlace() {
        Bench.part("2: its place");
        Bench b = new Bench();
        for (int place = 0; place < 32; place++) {
            for (int p = 1; p <= 3; p++) {
                Bench.due("code of " + p, b.x.code(p, END, 0, 0, 0, 0), place);
            }
        }
    }

    private static void codeOfNoSuchProgram() {
        Bench.part("2: no such program");
        Bench b = new Bench();
        for (int p : new int[] {0, 4, -1, LEAST, MOST}) {
            Bench.due("code of " + p, b.x.code(p, END, 0, 0, 0, 0), NONE);
        }
        for (int p = 1; p <= 3; p++) {
            Bench.due("what " + p + " has of it", b.x.wipe(p), 0);
            Bench.due("code of " + p, b.x.code(p, END, 0, 0, 0, 0), 0);
        }
    }

    private static void codeOfAFullProgram() {
        Bench.part("2: it has 32");
        for (int p = 1; p <= 3; p++) {
            Bench b = new Bench();
            for (int place = 0; place < 31; place++) {
                b.append(p, "END");
            }
            Bench.due("the 32nd of " + p, b.x.code(p, END, 0, 0, 0, 0), 31);
            Bench.due("the 33rd of " + p, b.x.code(p, 99, 0, 0, 0, 0), NONE);
            Bench.due("the 33rd of " + p + " again", b.x.code(p, 99, 0, 0, 0, 0), NONE);
            Bench.due("load(" + p + "), for the refused ones are not there", b.x.load(p), 0);
            Bench.due("code of another", b.x.code(p % 3 + 1, END, 0, 0, 0, 0), 0);
            Bench.due("wipe(" + p + ")", b.x.wipe(p), 32);
            Bench.due("code of one that was full", b.x.code(p, END, 0, 0, 0, 0), 0);
        }
    }

    private static void codeWithAnyParts() {
        Bench.part("2: all else may be such that there are none");
        Bench b = new Bench();
        int[] values = {LEAST, -1, 10, 16, 64, MOST};
        for (int i = 0; i < values.length; i++) {
            int v = values[i];
            Bench.due("kind " + v, b.x.code(1, v, 0, 0, 0, 0), 5 * i);
            Bench.due("d = " + v, b.x.code(1, 0, v, 0, 0, 0), 5 * i + 1);
            Bench.due("s = " + v, b.x.code(1, 0, 0, v, 0, 0), 5 * i + 2);
            Bench.due("offset " + v, b.x.code(1, 10, 0, 0, v, 0), 5 * i + 3);
            Bench.due("n = " + v, b.x.code(1, 14, 0, 0, 0, v), 5 * i + 4);
        }
    }

    private static void wipe() {
        wipeAnswersHowMany();
        wipeOfNoSuchProgram();
    }

    private static void wipeAnswersHowMany() {
        Bench.part("3: how many instructions");
        for (int p = 1; p <= 3; p++) {
            Bench b = new Bench();
            for (int many : new int[] {0, 1, 2, 31, 32, 0, 32}) {
                for (int i = 0; i < many; i++) {
                    Bench.due("code of " + p, b.x.code(p, END, 0, 0, 0, 0), i);
                }
                Bench.due("wipe(" + p + ")", b.x.wipe(p), many);
                Bench.due("load(" + p + ") of what is left", b.x.load(p), 1);
            }
        }
    }

    private static void wipeOfNoSuchProgram() {
        Bench.part("3: no such program");
        Bench b = new Bench();
        for (int p = 1; p <= 3; p++) {
            b.program(p, "END");
        }
        for (int p : new int[] {0, 4, -1, LEAST, MOST}) {
            Bench.due("wipe(" + p + ")", b.x.wipe(p), NONE);
        }
        for (int p = 1; p <= 3; p++) {
            Bench.due("a run of " + p, b.run(5, p, 0), 0);
            Bench.due("wipe(" + p + ")", b.x.wipe(p), 1);
        }
    }

    private static void load() {
        loadAnswersPlaceAndReason();
        loadOfNoSuchProgram();
    }

    private static void loadAnswersPlaceAndReason() {
        Bench.part("4: 100 * the place + the reason");
        for (int wrongAt : new int[] {0, 1, 30, 31}) {
            Bench b = new Bench();
            for (int place = 0; place < 32; place++) {
                b.x.code(2, place == wrongAt ? 16 : END, 0, 0, 0, 0);
            }
            Bench.due("wrong at " + wrongAt, b.x.load(2), 100 * wrongAt + 2);
        }
        Bench b = new Bench();
        b.append(2, "END");
        Bench.due("nothing wrong", b.x.load(2), 0);
    }

    private static void loadOfNoSuchProgram() {
        Bench.part("4: no such program");
        Bench b = new Bench();
        for (int p = 1; p <= 3; p++) {
            b.append(p, "END");
        }
        for (int p : new int[] {0, 4, -1, LEAST, MOST}) {
            Bench.due("load(" + p + ")", b.x.load(p), NONE);
        }
        for (int p = 1; p <= 3; p++) {
            Bench.due("a run of " + p, b.run(5, p, 0), AccountMachine.NO_PROGRAM);
            Bench.due("load(" + p + ")", b.x.load(p), 0);
            Bench.due("a run of " + p, b.run(5, p, 0), 0);
        }
    }

    private static void order() {
        orderAnswersItsNumber();
        orderOfNoSuchProgram();
        orderWhenThereAreThree();
        orderWithAnyArgument();
        orderHasNoSlots();
    }

    /** A program that logs its argument and how many slots its order has. */
    private static void logger(Bench b, int p) {
        b.program(p, "COPY 1 3", "LOG", "COPY 1 2", "LOG", "END");
    }

    private static void orderAnswersItsNumber() {
        Bench.part("5: its number (from 0)");
        Bench b = new Bench();
        for (int time = 0; time < 2; time++) {
            for (int i = 0; i < 3; i++) {
                Bench.due("order(" + i + ", 0)", b.x.order(i, 3), i);
            }
            Bench.due("run(9)", b.x.run(9), AccountMachine.BAD);
        }
    }

    private static void orderOfNoSuchProgram() {
        Bench.part("5: p is not 0 .. 3");
        for (int p : new int[] {-1, 4, LEAST, MOST}) {
            Bench b = new Bench();
            Bench.due("order(" + p + ", 0)", b.x.order(p, 0), NONE);
            Bench.due("slot(0, 0), for it is not there", b.x.slot(0, 0), false);
            Bench.due("run(9), for it is not there", b.x.run(9), NONE);
            Bench.due("order(0, 3)", b.x.order(0, 3), 0);
            Bench.due("order(" + p + ", 0)", b.x.order(p, 0), NONE);
            Bench.due("order(3, 0)", b.x.order(3, 0), 1);
        }
    }

    private static void orderWhenThereAreThree() {
        Bench.part("5: there are 3");
        Bench b = new Bench();
        logger(b, 1);
        for (int i = 0; i < 3; i++) {
            Bench.due("order(1, " + i + ")", b.x.order(1, i), i);
        }
        Bench.due("a fourth", b.x.order(1, 3), NONE);
        Bench.due("a fourth by the system", b.x.order(0, 3), NONE);
        Bench.due("slot(0, 0), of the third then", b.x.slot(0, 0), true);
        Bench.due("run(99)", b.x.run(99), 0);
        b.dueLog(0, 0, 1, 0, 2, 1);
        Bench.due("order(1, 4) behind the run", b.x.order(1, 4), 0);
    }

    private static void orderWithAnyArgument() {
        Bench.part("5: an argument");
        Bench b = new Bench();
        logger(b, 1);
        for (int argument : new int[] {0, 1, -1, LEAST, MOST}) {
            Bench.due("run", b.run(99, 1, argument), 0);
            b.dueLog(argument, 0);
        }
    }

    private static void orderHasNoSlots() {
        Bench.part("5: no slots");
        Bench b = new Bench();
        logger(b, 1);
        for (int time = 0; time < 2; time++) {
            b.order(1, 0, 0, 0, 1, 0, 2, 0, 3, 0);
            b.order(1, 1);
            b.order(1, 2, 7, 3);
            Bench.due("run", b.x.run(99), 0);
            b.dueLog(0, 4, 1, 0, 2, 1);
        }
        b.order(1, 0);
        b.order(1, 1);
        b.order(1, 2);
        Bench.due("run", b.x.run(99), 0);
        b.dueLog(0, 0, 1, 0, 2, 0);
    }

    private static void slot() {
        slotOfTheLatestOrder();
        slotWithoutOrder();
        slotWhenThereAreFour();
        slotOfNoSuchAccount();
        slotWithNoSuchMarks();
    }

    private static void slotOfTheLatestOrder() {
        Bench.part("6: the order that was added latest");
        Bench b = new Bench();
        logger(b, 1);
        b.x.order(1, 0);
        b.x.slot(0, 0);
        b.x.order(1, 1);
        b.x.slot(0, 0);
        b.x.slot(0, 0);
        b.x.order(1, 2);
        b.x.slot(0, 0);
        b.x.slot(0, 0);
        b.x.slot(0, 0);
        Bench.due("run", b.x.run(99), 0);
        b.dueLog(0, 1, 1, 2, 2, 3);
    }

    private static void slotWithoutOrder() {
        Bench.part("6: no order");
        Bench b = new Bench();
        Bench.due("slot(0, 0) of a new object", b.x.slot(0, 0), false);
        logger(b, 1);
        b.x.order(1, 5);
        Bench.due("slot(0, 0) with one", b.x.slot(0, 0), true);
        Bench.due("run(2001), which leaves it there", b.x.run(2001), NONE);
        Bench.due("slot(0, 0) of it", b.x.slot(0, 0), true);
        Bench.due("run(99)", b.x.run(99), 0);
        b.dueLog(5, 2);
        Bench.due("slot(0, 0) behind a run", b.x.slot(0, 0), false);
        Bench.due("run", b.run(99, 1, 6), 0);
        b.dueLog(6, 0);
    }

    private static void slotWhenThereAreFour() {
        Bench.part("6: it has 4 slots");
        Bench b = new Bench();
        b.program(1, "LOAD 1 1 30", "LOG", "COPY 1 2", "LOG", "END");
        for (int time = 0; time < 3; time++) {
            b.x.order(1, 0);
            for (int i = 0; i < 4; i++) {
                Bench.due("slot " + i, b.x.slot(i, 0), true);
            }
            Bench.due("a fifth", b.x.slot(7, 0), false);
            Bench.due("a fifth again", b.x.slot(7, 3), false);
        }
        Bench.due("run", b.x.run(99), 0);
        b.dueLog(3, 4, 3, 4, 3, 4);
    }

    private static void slotOfNoSuchAccount() {
        Bench.part("6: a is not 0 .. 7");
        Bench b = new Bench();
        b.program(1, "LOAD 1 1 0", "LOG", "COPY 1 2", "LOG", "END");
        for (int a = 0; a < 8; a++) {
            b.x.order(1, 0);
            for (int wrong : new int[] {-1, 8, LEAST, MOST}) {
                Bench.due("slot(" + wrong + ", 0)", b.x.slot(wrong, 0), false);
            }
            Bench.due("slot(" + a + ", 0)", b.x.slot(a, 0), true);
            Bench.due("run", b.x.run(99), 0);
            b.dueLog(a, 1);
        }
    }

    private static void slotWithNoSuchMarks() {
        Bench.part("6: marks is not 0 .. 3");
        Bench b = new Bench();
        b.program(1, "LOAD 1 1 1", "LOG", "COPY 1 2", "LOG", "END");
        for (int marks = 0; marks < 4; marks++) {
            b.x.order(1, 0);
            for (int wrong : new int[] {-1, 4, 7, LEAST, MOST}) {
                Bench.due("slot(3, " + wrong + ")", b.x.slot(3, wrong), false);
            }
            Bench.due("slot(3, " + marks + ")", b.x.slot(3, marks), true);
            Bench.due("run", b.x.run(99), 0);
            b.dueLog(marks, 1);
        }
    }

    private static void run() {
        runNumbersTheOrder();
        runOfRentIsNumbered3();
        runTakesOrdersAway();
        runBeginsWithAnEmptyLog();
        runWithoutOrder();
        runWithNoSuchUnits();
    }

    private static void runNumbersTheOrder() {
        Bench.part("7: what went wrong + 100 * the number of the order");
        Bench b = new Bench();
        b.program(1, "COPY 0 3", "END");
        for (int wrong = 0; wrong < 3; wrong++) {
            for (int i = 0; i < 3; i++) {
                b.order(1, i == wrong ? 1 : 0);
            }
            Bench.due("order " + wrong + " is wrong", b.x.run(99), 100 * wrong + AccountMachine.FAILED);
        }
        b.order(1, 1);
        b.order(2, 0);
        b.order(0, 3);
        Bench.due("all are wrong", b.x.run(99), AccountMachine.FAILED);
        b.order(1, 0);
        b.order(1, 0);
        b.order(1, 0);
        Bench.due("none is wrong", b.x.run(99), 0);
    }

    private static void runOfRentIsNumbered3() {
        Bench.part("7: RENT: 3");
        for (int orders = 1; orders <= 3; orders++) {
            Bench b = new Bench();
            b.order(0, 4 * 99, 0, 3, 1, 2);
            for (int i = 1; i < orders; i++) {
                b.order(0, 0, 2, 3, 3, 2);
            }
            Bench.due("RENT with " + orders + " orders", b.x.run(99), 300 + AccountMachine.RENT);
        }
    }

    private static void runTakesOrdersAway() {
        Bench.part("7: takes all orders away");
        Bench b = new Bench();
        b.program(1, "COPY 0 3", "END");
        for (int argument = 0; argument < 2; argument++) {
            b.order(1, argument, 0, 0);
            b.order(1, 0);
            Bench.due("run(99)", b.x.run(99), argument == 0 ? 0 : AccountMachine.FAILED);
            Bench.due("run(99) again", b.x.run(99), NONE);
            Bench.due("slot(0, 0)", b.x.slot(0, 0), false);
        }
        b.order(0, 4 * 99, 0, 3, 1, 2);
        Bench.due("a run with RENT", b.x.run(99), 300 + AccountMachine.RENT);
        Bench.due("run(99) again", b.x.run(99), NONE);
        Bench.due("the first order", b.x.order(1, 0), 0);
    }

    private static void runBeginsWithAnEmptyLog() {
        Bench.part("7: the log is empty and the result 0 at first");
        Bench b = new Bench();
        b.program(1, "IFN 3 0 2", "LOG", "GIVE", "END");
        Bench.due("run", b.run(99, 1, 7), 0);
        b.dueLog(2000);
        Bench.due("result()", b.x.result(), 2000);
        Bench.due("a run that neither logs nor gives", b.run(99, 1, 0), 0);
        b.dueLog();
        Bench.due("result()", b.x.result(), 0);
        Bench.due("run", b.run(99, 1, 7), 0);
        Bench.due("a run that goes wrong before", b.run(0, 1, 7), AccountMachine.METER);
        b.dueLog();
        Bench.due("result()", b.x.result(), 0);
    }

    /** An object with a run behind it: a log, a result and units that a refused run must leave alone. */
    private static Bench afterARun() {
        Bench b = new Bench();
        b.program(1, "COPY 1 3", "LOG", "GIVE", "END");
        Bench.due("run(99)", b.run(99, 1, 7), 0);
        return b;
    }

    private static void dueAsAfterARun(Bench b) {
        b.dueLog(7);
        Bench.due("result()", b.x.result(), 7);
        Bench.due("units()", b.x.units(), 93);
    }

    private static void runWithoutOrder() {
        Bench.part("7: NONE when there is no order");
        Bench b = afterARun();
        for (int units : new int[] {0, 50, 2000, -1, 2001}) {
            Bench.due("run(" + units + ")", b.x.run(units), NONE);
            dueAsAfterARun(b);
        }
        Bench.due("run with one", b.run(50, 1, 8), 0);
        b.dueLog(8);
    }

    private static void runWithNoSuchUnits() {
        Bench.part("7: NONE when units is not 0 .. 2000");
        Bench b = afterARun();
        b.order(1, 8);
        b.order(1, 9);
        for (int units : new int[] {-1, 2001, LEAST, MOST}) {
            Bench.due("run(" + units + ")", b.x.run(units), NONE);
            dueAsAfterARun(b);
        }
        Bench.due("run(2000), the orders being there still", b.x.run(2000), 0);
        b.dueLog(8, 9);
        Bench.due("units()", b.x.units(), 1988);
        Bench.due("run(0)", b.run(0, 1, 8), AccountMachine.METER);
        Bench.due("units()", b.x.units(), 0);
        Bench.due("run(1)", b.run(1, 1, 8), AccountMachine.METER);
        Bench.due("run(1999)", b.run(1999, 1, 8), 0);
        Bench.due("units()", b.x.units(), 1993);
    }

    private static void unitsAndResult() {
        unitsBeforeTheFirstRun();
        unitsAfterTheLatestRun();
        resultBeforeTheFirstRun();
        resultOfTheLatestRun();
    }

    private static void unitsBeforeTheFirstRun() {
        Bench.part("8: 0 before the first");
        Bench b = new Bench();
        Bench.due("units()", b.x.units(), 0);
        b.order(0, 3);
        Bench.due("units() with an order", b.x.units(), 0);
        Bench.due("run(2001)", b.x.run(2001), NONE);
        Bench.due("units() behind a refused run", b.x.units(), 0);
        Bench.due("run(2000)", b.x.run(2000), AccountMachine.BAD);
        Bench.due("units()", b.x.units(), 1998);
    }

    private static void unitsAfterTheLatestRun() {
        Bench.part("8: left on the meter after the latest run");
        Bench b = new Bench();
        b.program(1, "GO 0", "END");
        Bench.due("units that are all taken", b.run(2, 1, 0), 0);
        Bench.due("units()", b.x.units(), 0);
        Bench.due("one more", b.run(3, 1, 0), 0);
        Bench.due("units()", b.x.units(), 1);
        b.x.order(1, 0);
        b.x.load(1);
        Bench.due("units() with the next order", b.x.units(), 1);
    }

    private static void resultBeforeTheFirstRun() {
        Bench.part("9: 0 before the first");
        Bench b = new Bench();
        Bench.due("result()", b.x.result(), 0);
        b.order(0, 3);
        Bench.due("run(-1)", b.x.run(-1), NONE);
        Bench.due("result() behind a refused run", b.x.result(), 0);
    }

    private static void resultOfTheLatestRun() {
        Bench.part("9: the result of the latest run");
        Bench b = new Bench();
        for (long value : new long[] {0, -1, Long.MAX_VALUE, Long.MIN_VALUE, 1L << 32}) {
            b.program(1, Bench.lines(Bench.wide(1, value), "GIVE", "END"));
            Bench.due("run", b.run(9, 1, 0), 0);
            Bench.due("result()", b.x.result(), value);
        }
        b.program(1, "SET 1 5", "GIVE", "SET 1 6", "GIVE", "COPY 0 3", "END");
        Bench.due("the latest one given", b.run(20, 1, 0), 0);
        Bench.due("result()", b.x.result(), 6);
        Bench.due("the same of a run that goes wrong", b.run(20, 1, 1), AccountMachine.FAILED);
        Bench.due("result()", b.x.result(), 6);
    }

    private static void log() {
        logBeforeTheFirstRun();
        logKeepsTheFirst30();
        logOfAnyLong();
    }

    private static void logBeforeTheFirstRun() {
        Bench.part("10 and 11: before the first run");
        Bench b = new Bench();
        Bench.due("logged()", b.x.logged(), 0);
        for (int i : new int[] {0, 1, 29, 30, -1, LEAST, MOST}) {
            Bench.due("log(" + i + ")", b.x.log(i), 0);
        }
    }

    private static void logKeepsTheFirst30() {
        Bench.part("10: keeps the first 30; 0 when there is none. 11: how many it keeps");
        // Logs 100, 101, .. as often as the argument says.
        String[] lines = {"SET 1 100", "ADDN 3 100", "IFLESS 1 3 1", "END", "LOG", "ADDN 1 1", "GO -5"};
        for (int many : new int[] {0, 1, 2, 29, 30, 31, 32, 60}) {
            Bench b = new Bench();
            b.program(1, lines);
            Bench.due("run", b.run(2000, 1, many), 0);
            int kept = Math.min(many, 30);
            Bench.due("logged() of " + many, b.x.logged(), kept);
            for (int i = 0; i < 62; i++) {
                Bench.due("log(" + i + ") of " + many, b.x.log(i), i < kept ? 100 + i : 0);
            }
            for (int i : new int[] {-1, -30, LEAST, MOST}) {
                Bench.due("log(" + i + ") of " + many, b.x.log(i), 0);
            }
            Bench.due("a run that logs less", b.run(2000, 1, 1), 0);
            b.dueLog(100);
            Bench.due("log(29), which is gone", b.x.log(29), 0);
        }
    }

    private static void logOfAnyLong() {
        Bench.part("10: number i in the log");
        Bench b = new Bench();
        b.program(1, Bench.lines(Bench.wide(1, Long.MIN_VALUE), "LOG", Bench.wide(1, Long.MAX_VALUE), "LOG", "SET 1 -1",
                "LOG", "SET 1 0", "LOG", "END"));
        Bench.due("run", b.run(99, 1, 0), 0);
        b.dueLog(Long.MIN_VALUE, Long.MAX_VALUE, -1, 0);
    }

    private static void account() {
        Bench.part("12: NONE when there is no such account or what");
        Bench b = new Bench();
        b.own(0, 1, 4);
        b.own(7, 3, 1);
        b.dueAccount(0, 100, 1, 4);
        b.dueAccount(7, 100, 3, 1);
        for (int wrong : new int[] {-1, 8, LEAST, MOST}) {
            for (int what = -1; what <= 3; what++) {
                Bench.due("account(" + wrong + ", " + what + ")", b.x.account(wrong, what), NONE);
            }
        }
        for (int wrong : new int[] {-1, 3, 4, LEAST, MOST}) {
            for (int a = 0; a < 8; a++) {
                Bench.due("account(" + a + ", " + wrong + ")", b.x.account(a, wrong), NONE);
            }
        }
    }

    private static void data() {
        Bench.part("13: 0 when there is none");
        for (int size = 0; size <= 4; size++) {
            Bench b = new Bench();
            for (int a = 0; a < 8; a++) {
                b.own(a, 1, a % 2 == 0 ? size : 4);
            }
            // Fills all words of the account in slot 0 with numbers from the argument on.
            b.program(1, "COPY 5 1", "LOAD 6 5 4", "ADD 6 5", "IFLESS 5 6 1", "END", "STORE 5 5 3", "ADDN 3 1",
                    "ADDN 5 1", "GO -6");
            for (int a = 0; a < 8; a++) {
                Bench.due("run", b.run(99, 1, 10 * a + 1, a, 2), 0);
            }
            for (int a = 0; a < 8; a++) {
                int has = a % 2 == 0 ? size : 4;
                for (int i = 0; i < 6; i++) {
                    Bench.due("data(" + a + ", " + i + ") of " + has, b.x.data(a, i), i < has ? 10 * a + 1 + i : 0);
                }
                Bench.due("data(" + a + ", -1)", b.x.data(a, -1), 0);
                Bench.due("data(" + a + ", MIN_VALUE)", b.x.data(a, LEAST), 0);
                Bench.due("data(" + a + ", MAX_VALUE)", b.x.data(a, MOST), 0);
            }
            for (int wrong : new int[] {-1, 8, LEAST, MOST}) {
                for (int i = -1; i <= 4; i++) {
                    Bench.due("data(" + wrong + ", " + i + ")", b.x.data(wrong, i), 0);
                }
            }
        }
    }
}
