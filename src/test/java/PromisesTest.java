/** Each promise by hand: ordinary inputs, the edges that the document names, wrong inputs. */
public final class PromisesTest {
    private static final int NONE = CrossbarHouse.NONE;
    private static final int[] WRONG = {-1, -2, -3, 100, 1000, Integer.MAX_VALUE, Integer.MIN_VALUE};
    private static final Due due = new Due("PromisesTest");

    public static void main(String[] args) {
        promise1();
        promise2();
        promise3();
        promise4();
        promise5();
        promise5Limits();
        promise6();
        promise7();
        promise8();
        promise9Fans();
        promise9Pointers();
        promise9Bursts();
        promise9Edges();
        promise10();
        promise11();
        promise12();
        promise13();
        promise14();
        promise14Twice();
        promise15();
        promise16();
        promise16Rest();
        promise17();
        promise18();
        promise19();
        promise20();
        promise21And22();
        due.end();
    }

    private static void promise1() {
        due.fresh("promise 1");
        for (int sort = 0; sort < 3; sort++) {
            due.same("count", due.house.count(sort), 0);
            due.same("again", due.house.again(sort), false);
        }
        due.same("end(1)", due.house.end(1), NONE);
        due.same("end(0)", due.house.end(0), 0);
        due.same("fault(0)", due.house.fault(0), 0);
        due.same("fault(1)", due.house.fault(1), NONE);
        due.same("NONE", CrossbarHouse.NONE, -1);
        due.same("crossbar", due.house.crossbar(0, 0), NONE);
        due.same("deed", due.house.deed(0, NONE, 0), -2);
        due.same("fact", due.house.fact(0, NONE, 0), -2);
    }

    private static void promise2() {
        due.fresh("promise 2");
        for (int k = 1; k <= 30; k++) {
            due.same("feed " + k, due.house.feed(0, 0, 0, 0, 0), 20 * k);
        }
        due.same("feed 31", due.house.feed(0, 0, 0, 0, 0), NONE);
        due.same("end(600)", due.house.end(600), 600);
        due.same("end(581)", due.house.end(581), 581);
        due.same("feed behind 581", due.house.feed(0, 0, 0, 0, 0), NONE);
        due.same("end(582)", due.house.end(582), NONE);
        due.same("end(580)", due.house.end(580), 580);
        due.same("feed behind 580", due.house.feed(0, 0, 0, 0, 0), 600);
        due.same("end(0)", due.house.end(0), 0);
        // "rounds 3; ports 5 ;" and a line feed
        due.same("feed", due.house.feed(0x726f756e, 0x64732033, 0x3b20706f, 0x72747320, 0x35203b0a), 20);
        due.same("text", due.house.text(0, NONE), 0);
        due.same("rounds", due.house.crossbar(0, 1), 3);
        due.same("ports", due.house.crossbar(0, 0), 5);
        due.same("feed", due.house.feed(-1, -1, -1, -1, -1), 20);
        due.same("text", due.house.text(0, NONE), NONE);
        due.same("fault(1)", due.house.fault(1), 0);
    }

    private static void promise3() {
        due.fresh("promise 3");
        due.house.feed(0, 0, 0, 0, 0);
        due.same("end(-1)", due.house.end(-1), NONE);
        due.same("end(least)", due.house.end(Integer.MIN_VALUE), NONE);
        due.same("end(21)", due.house.end(21), NONE);
        due.same("end(greatest)", due.house.end(Integer.MAX_VALUE), NONE);
        due.same("end(20)", due.house.end(20), 20);
        due.same("end(7)", due.house.end(7), 7);
        due.same("end(8)", due.house.end(8), NONE);
        due.same("feed", due.house.feed(0, 0, 0, 0, 0), 27);
        due.same("end(0)", due.house.end(0), 0);
    }

    private static void promise4() {
        due.fresh("promise 4");
        for (int sort = 0; sort < 3; sort++) {
            due.same("in the place of none", due.tell(sort, 0, "x"), -2);
            due.same("fault(0)", due.house.fault(0), 0);
            due.same("fault(1)", due.house.fault(1), NONE);
            due.same("the tape is empty", due.house.end(1), NONE);
            due.same("a fault", due.tell(sort, NONE, "x"), NONE);
            due.same("the tape is empty", due.house.end(1), NONE);
            due.same("count", due.house.count(sort), 0);
            due.same("a first one", due.tell(sort, NONE, ""), 0);
            due.same("a second one", due.tell(sort, NONE, " \n "), 1);
            due.same("a third one", due.tell(sort, NONE, ""), -2);
            due.same("a third one, faulty", due.tell(sort, NONE, "x"), -2);
            due.same("fault(0)", due.house.fault(0), 0);
            due.same("in the place of a second one", due.tell(sort, 1, ""), 1);
            due.same("in the place of a third one", due.tell(sort, 2, ""), -2);
            due.same("at -2", due.tell(sort, -2, ""), -2);
            due.same("count", due.house.count(sort), 2);
        }
        due.same("sort 3", due.tell(3, NONE, "x"), -2);
        due.same("sort -1", due.tell(-1, NONE, "x"), -2);
        due.same("sort -1", due.tell(-1, 0, "x"), -2);
        due.same("the tape is empty", due.house.end(1), NONE);
        due.same("another crossbar 0", due.tell(0, 0, "ports 3;"), 0);
        due.same("its ports", due.house.crossbar(0, 0), 3);
        due.same("a faulty crossbar 0", due.tell(0, 0, "ports 2;x"), NONE);
        due.same("its ports", due.house.crossbar(0, 0), 3);
        due.same("the other's ports", due.house.crossbar(1, 0), 4);
        due.same("another traffic 1", due.tell(1, 1, "slot;slot;"), 1);
        due.same("another traffic 1", due.tell(1, 1, "idle 4;"), 1);
        due.same("its deeds", due.house.deed(1, NONE, 0), 1);
    }

    private static void promise5() {
        due.faulty(0, "", 0, NONE);
        due.faulty(0, "ports 06;rounds 4;depth 1;pointer 0;", 0, NONE);
        due.faulty(0, "ports1;\n\nrounds\n2 ; ", 0, NONE);
        due.faulty(0, "ports 3", 1, 7);
        due.faulty(0, "ports 3  ", 1, 9);
        due.faulty(0, "ports", 1, 5);
        due.faulty(0, "ports ;", 1, 6);
        due.faulty(0, ";", 1, 0);
        due.faulty(0, " 3;", 1, 1);
        due.faulty(0, "port 3;", 1, 0);
        due.faulty(0, "portss 3;", 1, 0);
        due.faulty(0, "portsz 3;", 1, 0);
        due.faulty(0, "portsa 3;", 1, 0);
        due.faulty(0, "Ports 3;", 1, 0);
        due.faulty(0, "ports 3;;", 1, 8);
        due.faulty(0, "ports 3 3;", 1, 8);
        due.faulty(0, "ports 003;", 1, 6);
        due.faulty(0, "ports 3\t;", 1, 7);
        due.faulty(0, "ports 3;slot;", 1, 8);
        due.faulty(0, "ports -3;", 1, 6);
        due.faulty(0, "ports 3;" + (char) 233, 1, 8);
        due.faulty(0, "ports 9;rounds 3", 1, 16);
        due.faulty(0, "ports 0;", 2, 6);
        due.faulty(0, "ports 7;", 2, 6);
        due.faulty(0, "rounds 0;", 2, 7);
        due.faulty(0, "rounds 5;", 2, 7);
        due.faulty(0, "depth 0;", 2, 6);
        due.faulty(0, "depth 10;", 2, 6);
        due.faulty(0, "pointer 6;", 2, 8);
        due.faulty(0, "ports 7;rounds 9;ports 2;", 2, 6);
        due.faulty(1, "slot;idle 1;cell 0 5;fan 5 63;burst 0 1;idle 9;", 0, NONE);
        due.faulty(1, "slot 1;", 1, 5);
        due.faulty(1, "cell 0;", 1, 6);
        due.faulty(1, "cell 0 1 2;", 1, 9);
        due.faulty(1, "match 0 0 0;", 1, 0);
        due.faulty(1, "idle;", 1, 4);
        due.faulty(1, "idle 0;", 2, 5);
        due.faulty(1, "idle 10;", 2, 5);
        due.faulty(1, "cell 6 6;", 2, 5);
        due.faulty(1, "cell 5 6;", 2, 7);
        due.faulty(1, "fan 6 1;", 2, 4);
        due.faulty(1, "fan 0 0;", 2, 6);
        due.faulty(1, "fan 0 64;", 2, 6);
        due.faulty(1, "burst 6 1;", 2, 6);
        due.faulty(1, "burst 0 0;", 2, 8);
        due.faulty(1, "burst 0 99;", 2, 8);
        due.faulty(2, "match 60 5 5;apart 0 0 0;", 0, NONE);
        due.faulty(2, "match 61 0 0;", 2, 6);
        due.faulty(2, "match 0 6 0;", 2, 8);
        due.faulty(2, "apart 0 0 6;", 2, 10);
        due.faulty(2, "apart 0 0;", 1, 9);
        due.faulty(2, "apart 100 0 0;", 1, 6);
        for (int what : WRONG) {
            due.same("fault(" + what + ")", due.house.fault(what), NONE);
        }
        due.same("fault(2)", due.house.fault(2), NONE);
        due.same("a right text", due.tell(2, NONE, ""), 0);
        due.same("fault(0)", due.house.fault(0), 0);
        due.same("fault(1)", due.house.fault(1), NONE);
    }

    private static void promise5Limits() {
        due.faulty(1, "slot;".repeat(40), 0, NONE);
        due.faulty(1, "slot;".repeat(41), 3, 200);
        due.faulty(1, "slot;".repeat(40) + " idle 0;", 3, 201);
        due.faulty(1, "slot;".repeat(39) + "idle 0;slot;", 2, 200);
        due.faulty(1, "idle 0;" + "slot;".repeat(39), 2, 5);
        due.faulty(1, "slot;idle 0;" + "slot;".repeat(39), 2, 10);
        due.faulty(1, "slot;".repeat(41) + "x", 1, 205);
        due.faulty(1, "slot;".repeat(120), 3, 200);
        due.faulty(2, "match 0 0 0;".repeat(8), 0, NONE);
        due.faulty(2, "match 0 0 0;".repeat(9), 3, 96);
        due.faulty(2, "match 0 0 0;".repeat(8) + "match 99 0 0;", 3, 96);
        due.faulty(2, "match 0 0 0;".repeat(9) + "match", 1, 113);
        due.faulty(0, "ports 2;".repeat(75), 0, NONE);
    }

    private static void promise6() {
        due.fresh("promise 6");
        due.tell(0, NONE, "");
        due.tell(0, NONE, "ports 2;rounds 4;depth 7;pointer 5;ports 6;depth 1;");
        int[][] want = {{4, 2, 9, 0}, {6, 4, 1, 5}};
        for (int c = 0; c < 2; c++) {
            for (int what = 0; what < 4; what++) {
                due.same("crossbar(" + c + ", " + what + ")", due.house.crossbar(c, what), want[c][what]);
            }
            due.same("what 4", due.house.crossbar(c, 4), NONE);
        }
        due.same("crossbar 2", due.house.crossbar(2, 0), NONE);
        for (int wrong : WRONG) {
            due.same("crossbar " + wrong, due.house.crossbar(wrong, 0), NONE);
            due.same("what " + wrong, due.house.crossbar(0, wrong), NONE);
        }
    }

    private static void promise7() {
        due.fresh("promise 7");
        due.tell(1, NONE, "slot;idle 3;cell 1 2;fan 0 5;burst 3 63;");
        int[][] want = {{0, -1, -1}, {1, 3, -1}, {2, 1, 2}, {3, 0, 5}, {4, 3, 63}};
        due.same("how many", due.house.deed(0, NONE, 0), 5);
        due.same("how many, what 1", due.house.deed(0, NONE, 1), -2);
        for (int k = 0; k < 5; k++) {
            for (int what = 0; what < 3; what++) {
                due.same("deed(0, " + k + ", " + what + ")", due.house.deed(0, k, what), want[k][what]);
            }
            due.same("what 3", due.house.deed(0, k, 3), -2);
        }
        due.same("deed 5", due.house.deed(0, 5, 0), -2);
        due.same("traffic 1", due.house.deed(1, NONE, 0), -2);
        for (int wrong : WRONG) {
            due.same("traffic " + wrong, due.house.deed(wrong, 0, 0), -2);
            due.same("what " + wrong, due.house.deed(0, 0, wrong), -2);
            due.same("deed " + wrong, due.house.deed(0, wrong, 0), wrong == NONE ? 5 : -2);
        }
    }

    private static void promise8() {
        due.stops("", "", 0);
        due.stops("", "slot;idle 9;", 2);
        due.stops("", "cell 0 1;cell 0 2;", 1);
        due.stops("", "cell 4 0;", 0);
        due.stops("", "cell 3 3;cell 2 4;", 1);
        due.stops("", "slot;fan 0 16;", 1);
        due.stops("", "fan 0 15;burst 1 17;", 1);
        due.stops("", "fan 4 1;", 0);
        due.stops("", "burst 0 15;fan 0 1;slot;", 1);
        due.stops("", "cell 0 0;slot;cell 0 0;idle 2;fan 0 1;burst 0 1;", 5);
        due.stops("ports 1;", "cell 0 0;slot;fan 0 1;slot;fan 0 2;slot;", 4);
        due.stops("depth 1;ports 2;", "cell 0 0;cell 1 0;slot;cell 1 0;cell 1 1;", 4);
        due.stops("ports 6;", "cell 5 5;fan 4 63;", 2);
        due.same("crossbar 1", due.house.stop(1, 0), NONE);
        due.same("traffic 1", due.house.stop(0, 1), NONE);
        for (int wrong : WRONG) {
            due.same("crossbar " + wrong, due.house.stop(wrong, 0), NONE);
            due.same("traffic " + wrong, due.house.stop(0, wrong), NONE);
        }
    }

    private static void promise9Fans() {
        // two of three are apart: 0 and 2; nothing is left for 1
        due.fresh("ports 3;", "fan 0 3;fan 1 6;fan 2 4;slot;slot;");
        due.state(3, 0, 0, 1, 3, 4, 0, 30, 1, 40, 3, 41, 6, 42, 4, 70, -1);
        due.state(4, 0, 1, 4, 2, 70, 0, 71, 0, 72, 2, 30, 0, 31, 1, 40, 0, 41, 6, 42, 0);
        due.state(5, 4, 3, 70, -1, 71, 1, 72, 1, 31, 0, 41, 0);
        // of two that clash the least is served, the other is split
        due.fresh("ports 3;", "fan 0 3;fan 1 6;slot;slot;slot;");
        due.state(3, 4, 1, 70, 0, 71, 0, 72, 1, 41, 2);
        due.state(4, 4, 2, 71, 1, 72, -1, 41, 0);
        due.state(5, 70, -1, 71, -1, 72, -1);
        // most INPUTS go before most OUTPUTS; one set of most INPUTS is least
        due.fresh("ports 4;", "fan 0 15;fan 1 1;fan 2 2;fan 3 2;slot;");
        due.state(5, 4, 2, 70, 1, 71, 2, 72, 0, 73, 0, 40, 3, 43, 2);
        // the fan behind a head waits for the next slot, and a full queue loses
        due.fresh("ports 2;depth 2;", "fan 0 1;fan 1 1;slot;fan 1 2;slot;fan 0 3;fan 1 3;slot;");
        due.state(3, 4, 1, 30, 0, 31, 1, 70, 0, 71, -1);
        due.state(4, 31, 2, 41, 1);
        due.state(5, 4, 2, 70, 1, 71, -1, 31, 1, 41, 2);
        due.state(7, 31, 2, 2, 0);
        due.fresh("ports 2;depth 1;", "fan 0 3;fan 1 3;slot;fan 1 1;slot;");
        due.state(4, 1, 3, 2, 1, 31, 1);
        // busy ones do not ask, and are not asked
        due.fresh("ports 2;", "cell 0 0;fan 1 1;slot;slot;");
        due.state(3, 60, -1, 70, 1, 3, 0, 100, 1);
        due.state(4, 60, 0, 70, -1, 3, 1, 100, 0);
        due.fresh("ports 2;", "cell 0 1;fan 1 1;slot;");
        due.state(3, 61, 0, 70, 1, 3, 1, 4, 1);
        due.fresh("ports 2;depth 1;", "burst 0 3;slot;fan 0 1;slot;slot;");
        due.state(4, 70, 0, 61, -1, 101, 1);
        due.state(5, 70, -1, 61, 0, 101, 0);
    }

    private static void promise9Pointers() {
        due.fresh("ports 2;rounds 1;", "cell 0 0;cell 1 0;slot;slot;");
        due.state(2, 10, 0, 11, 0, 20, 0, 21, 0, 60, -1);
        due.state(3, 60, 0, 61, -1, 20, 1, 10, 1, 21, 0, 11, 0, 100, 0, 110, 1, 3, 1);
        due.state(4, 60, 1, 20, 0, 11, 1, 110, 0, 3, 2);
        // a second round matches more, and moves no pointer
        due.fresh("ports 2;rounds 2;", "burst 0 3;burst 1 3;slot;");
        due.state(3, 60, 0, 61, 1, 20, 1, 21, 0, 10, 1, 11, 0, 3, 2);
        due.fresh("ports 2;rounds 1;", "burst 0 3;burst 1 3;slot;");
        due.state(3, 60, 0, 61, -1, 20, 1, 21, 0, 10, 1, 11, 0, 3, 1);
        // a pointer above PORTS, and from the last one on to 0
        due.fresh("ports 3;rounds 1;pointer 5;", "cell 0 1;cell 1 1;slot;slot;");
        due.state(0, 10, 2, 20, 2, 22, 2);
        due.state(3, 61, 0, 21, 1, 10, 2);
        due.state(4, 61, 1, 21, 2, 11, 2);
        due.fresh("ports 3;rounds 1;pointer 2;", "burst 2 7;slot;");
        due.state(2, 62, 2, 60, -1, 22, 0, 12, 0);
    }

    private static void promise9Bursts() {
        due.fresh("ports 4;depth 1;", "burst 0 11;cell 1 0;slot;burst 0 15;burst 2 12;");
        // rising: 0, 1, 3 come; shut: 3, 1, 0
        due.state(1, 1, 3, 5, 3, 53, 1, 52, 0, 51, 2, 50, 3, 100, 1, 101, 1, 102, 0, 103, 1);
        // slot: 0 takes OUTPUT 0 ; then a CELL for 0 comes, that for 1 is lost, no more come
        due.state(3, 60, 0, 100, 0, 101, 1, 103, 1);
        due.state(4, 1, 6, 2, 1, 5, 5, 51, 4, 50, 5, 53, 1, 52, 0, 100, 1, 102, 0);
        due.state(5, 5, 7, 53, 6, 52, 7, 122, 1, 123, 1);
        due.cell(5, 0, 2, 0, 1, -1, 1);
    }

    private static void promise9Edges() {
        due.fresh("ports 2;", "cell 0 1;idle 3;cell 0 5;");
        due.state(2, 0, 3, 60, -1, 61, -1, 3, 1);
        due.state(3, 0, -2);
        due.state(-1, 0, -2);
        due.state(Integer.MAX_VALUE, 0, -2);
        for (int what : new int[] {-1, 6, 7, 8, 9, 12, 19, 22, 32, 42, 52, 62, 72, 80, 81, 90, 99, 102, 112, 120, 121,
            200, 1000, Integer.MAX_VALUE, Integer.MIN_VALUE}) {
            due.state(0, what, -2);
        }
        due.same("crossbar 1", due.house.state(1, 0, 0, 0), -2);
        due.same("traffic 1", due.house.state(0, 1, 0, 0), -2);
        for (int wrong : WRONG) {
            due.same("crossbar " + wrong, due.house.state(wrong, 0, 0, 0), -2);
            due.same("traffic " + wrong, due.house.state(0, wrong, 0, 0), -2);
        }
        due.fresh("ports 6;", "idle 9;".repeat(40));
        due.state(40, 0, 360, 155, 0, 156, -2, 160, -2, 65, -1, 66, -2);
    }

    private static void promise10() {
        due.fresh("ports 2;depth 1;", "cell 0 1;fan 1 3;slot;cell 0 1;fan 1 1;slot;slot;cell 0 5;");
        due.cell(0, 0, 2, 0, 0, 1, 0);
        due.cell(1, 1, 3, 1, 0, 0, 0);
        due.cell(2, 0, 2, 0, 1, -1, 1);
        due.cell(3, 1, 1, 1, 1, 1, 0);
        due.same("what 6", due.house.cell(0, 0, 0, 6), -2);
        due.same("cell 4", due.house.cell(0, 0, 4, 0), -2);
        due.same("crossbar 1", due.house.cell(1, 0, 0, 0), -2);
        due.same("traffic 1", due.house.cell(0, 1, 0, 0), -2);
        for (int wrong : WRONG) {
            due.same("cell " + wrong, due.house.cell(0, 0, wrong, 0), -2);
            due.same("what " + wrong, due.house.cell(0, 0, 0, wrong), -2);
            due.same("crossbar " + wrong, due.house.cell(wrong, 0, 0, 0), -2);
            due.same("traffic " + wrong, due.house.cell(0, wrong, 0, 0), -2);
        }
        // a FAN that is not away yet
        due.fresh("ports 2;", "fan 0 1;fan 1 3;slot;");
        due.cell(0, 0, 1, 1, 0, 0, 0);
        due.cell(1, 1, 3, 1, 0, -1, 0);
    }

    private static void promise11() {
        // all grant 0 at first; then they fall into step
        due.fresh("ports 3;rounds 1;", "");
        due.full(0, 0, -1, -1);
        // GRANTS 1 0 0, ACCEPTS 1 0 0: OUTPUT 0 grants 1, the others 0, which takes 1
        due.full(1, 1, 0, -1);
        // GRANTS 2 1 0, ACCEPTS 2 1 0: each its own
        due.full(2, 2, 1, 0);
        due.full(3, 0, 2, 1);
        due.full(99, 0, 2, 1);
        due.full(98, 2, 1, 0);
        due.full(0, 0, -1, -1, -1);
        due.full(100, -1, -1, -1);
        due.full(-1, -1, -1, -1);
        due.same("output -1", due.house.full(0, 2, -1), NONE);
        due.same("output 3", due.house.full(0, 2, 3), NONE);
        due.same("crossbar 1", due.house.full(1, 0, 0), NONE);
        for (int wrong : WRONG) {
            due.same("crossbar " + wrong, due.house.full(wrong, 0, 0), NONE);
            due.same("slot " + wrong, due.house.full(0, wrong, 0), NONE);
            due.same("output " + wrong, due.house.full(0, 0, wrong), NONE);
        }
        due.fresh("ports 2;rounds 2;pointer 1;", "");
        due.full(0, 0, 1);
        due.full(1, 1, 0);
    }

    private static void promise12() {
        due.rhythm("ports 1;rounds 1;", 1, 1, 1, 0, -2);
        // behind SLOT 0: GRANTS 1 0, ACCEPTS 1 0; 1: 0 1, 0 1; 2: 1 0, 1 0 again
        due.rhythm("ports 2;rounds 1;", 3, 2, 4, 1, -2);
        due.rhythm("ports 2;rounds 2;pointer 3;", 3, 2, 4, 0, -2);
        due.rhythm("ports 6;rounds 1;", 11, 6, 36, 5, -2);
        due.same("crossbar 1", due.house.rhythm(1, 0), -2);
        for (int wrong : WRONG) {
            due.same("crossbar " + wrong, due.house.rhythm(wrong, 0), -2);
            due.same("what " + wrong, due.house.rhythm(0, wrong), -2);
        }
    }

    private static void promise13() {
        due.fresh("ports 3;rounds 1;", "burst 0 7;burst 1 1;");
        due.judge(0, 0, 0, 1, 0, 2, 0, 3, 0, 4, 1, 10, 6, 11, 6, 12, 6);
        due.judge(1, 0, 1, 1, 1, 2, 1, 3, 1, 4, 1, 10, 0, 11, 6);
        due.judge(2, 0, 2, 1, 2, 2, 1, 3, 1, 4, 1, 10, 1, 11, 0, 12, 6);
        due.fresh("ports 2;rounds 1;", "burst 0 3;burst 1 3;");
        due.judge(2, 0, 2, 1, 2, 2, 1, 3, 1, 4, 2, 10, 0, 11, 1);
        due.fresh("ports 2;rounds 2;", "burst 0 3;burst 1 3;");
        due.judge(2, 2, 2, 3, 2, 4, 2);
        // one pair of two CELLS, or two pairs of one: the row 0 1 goes before 1 6
        due.fresh("ports 2;", "burst 0 3;slot;burst 0 3;cell 1 1;");
        due.judge(4, 0, 2, 1, 2, 10, 0, 11, 1, 2, 1, 3, 2, 4, 1);
        // four in one QUEUE outweigh two pairs
        due.fresh("ports 2;", "burst 0 3;slot;burst 0 3;fan 1 2;slot;burst 0 3;fan 1 2;slot;burst 0 3;cell 1 1;");
        due.judge(9, 0, 1, 1, 4);
        due.judge(10, 0, 2, 1, 4, 10, 1, 11, 6);
        // FANS do not count
        due.fresh("ports 2;", "fan 0 3;fan 1 3;");
        due.judge(2, 0, 0, 1, 0, 2, 0, 4, 1);
        due.fresh("ports 2;", "cell 0 0;fan 1 1;cell 0 1;");
        due.judge(2, 0, 1, 2, 1, 3, 1);
        due.judge(3, 0, -2);
        for (int what : new int[] {5, 9, 12, 16, 20, -1, Integer.MAX_VALUE, Integer.MIN_VALUE}) {
            due.judge(0, what, -2);
        }
        due.same("crossbar 1", due.house.judge(1, 0, 0, 0), -2);
        due.same("traffic 1", due.house.judge(0, 1, 0, 0), -2);
        for (int wrong : WRONG) {
            due.same("crossbar " + wrong, due.house.judge(wrong, 0, 0, 0), -2);
            due.same("traffic " + wrong, due.house.judge(0, wrong, 0, 0), -2);
            due.same("n " + wrong, due.house.judge(0, 0, wrong, 0), -2);
        }
    }

    private static void promise14() {
        due.fresh("ports 2;", "");
        due.mimic(NONE, 0, 0, 0, NONE);
        due.mimic(0, NONE, NONE, NONE);
        // SPEED 1: in SLOT 1 the new CELL goes before the one for OUTPUT 0
        due.fresh("ports 2;", "cell 1 0;cell 0 0;slot;cell 1 1;");
        due.mimic(NONE, 3, 1, 0, NONE);
        due.mimic(0, 1, 2, 1, NONE);
        due.mimic(1, 0, 0, 0, NONE);
        due.mimic(2, 1, 1, 1, NONE);
        due.mimic(3, NONE, NONE, NONE);
        // just what cell tells, whatever DEPTH, up to STOP
        due.fresh("ports 2;depth 1;rounds 1;", "burst 0 3;cell 1 0;slot;cell 0 0;cell 1 0;slot;fan 0 3;cell 1 0;cell 1 1;");
        due.mimic(NONE, 4, 0, 0);
        due.mimic(0, 0, 0, 0);
        due.mimic(1, 1, 1, 1);
        due.mimic(2, 2, 2, 2);
        due.mimic(3, 3, 3, 3);
        due.same("what -1", due.house.mimic(0, 0, 0, -1), NONE);
        due.same("crossbar 1", due.house.mimic(1, 0, NONE, 0), NONE);
        due.same("traffic 1", due.house.mimic(0, 1, NONE, 0), NONE);
        for (int wrong : WRONG) {
            due.same("crossbar " + wrong, due.house.mimic(wrong, 0, 0, 0), NONE);
            due.same("traffic " + wrong, due.house.mimic(0, wrong, 0, 0), NONE);
            due.same("what " + wrong, due.house.mimic(0, 0, 0, wrong), NONE);
            due.same("cell " + wrong, due.house.mimic(0, 0, wrong, 0), wrong == NONE ? 4 : NONE);
        }
    }

    /** By SPEED 2 none is ever LATE, as the document's first words say. */
    private static void promise14Twice() {
        int seen = 0;
        java.util.Random random = new java.util.Random(14);
        for (int k = 0; k < 300; k++) {
            int ports = 2 + random.nextInt(5);
            int narrow = 1 + random.nextInt(ports);
            StringBuilder traffic = new StringBuilder();
            int arrived = 0;
            for (int n = 0; n < 40; n++) {
                int i = random.nextInt(ports);
                boolean slot = (arrived >> i & 1) != 0;
                traffic.append(slot ? "slot;" : "cell " + i + " " + random.nextInt(narrow) + ";");
                arrived = slot ? 0 : arrived | 1 << i;
            }
            due.fresh("ports " + ports + ";", traffic.toString());
            due.same("late by 2", due.house.mimic(0, 0, NONE, 2), 0);
            seen += due.house.mimic(0, 0, NONE, 1) > 0 ? 1 : 0;
        }
        due.same("some are late by 1", seen > 20, true);
        // here one would be, if CELLS at other OUTPUTS were counted, or if new CELLS went to the end of a row
        String[] hard = {
            "ports 6;", "cell 5 0;cell 0 0;cell 2 0;cell 1 3;cell 3 0;slot;cell 4 2;cell 5 2;slot;cell 5 0;",
            "ports 3;", "cell 1 0;cell 0 0;cell 2 0;slot;cell 0 0;cell 1 0;cell 2 0;slot;cell 2 2;cell 0 2;cell 1 0;slot;cell 2 1;",
            "ports 4;", "cell 3 0;cell 0 0;cell 1 0;slot;cell 3 1;slot;"};
        for (int k = 0; k < hard.length; k += 2) {
            due.fresh(hard[k], hard[k + 1]);
            due.same("late by 2", due.house.mimic(0, 0, NONE, 2), 0);
        }
    }

    private static void promise15() {
        due.fresh("ports 3;", "cell 0 2;cell 2 0;slot;cell 0 2;cell 1 1;slot;cell 0 2;cell 1 2;slot;cell 2 0;burst 1 4;");
        due.flow(NONE, 4, NONE, NONE);
        due.flow(0, 20, 1, 1, NONE);
        // OUTPUT 2 has GRANT 1 by now: 1 goes first, the third CELL of 0 waits
        due.flow(1, 2, 2, 1, NONE);
        due.flow(2, 11, 1, 0, NONE);
        due.flow(3, 12, 1, 1, NONE);
        due.flow(4, NONE, NONE, NONE);
        due.same("crossbar 1", due.house.flow(1, 0, NONE, 0), NONE);
        due.same("traffic 1", due.house.flow(0, 1, NONE, 0), NONE);
        for (int wrong : WRONG) {
            due.same("crossbar " + wrong, due.house.flow(wrong, 0, 0, 0), NONE);
            due.same("traffic " + wrong, due.house.flow(0, wrong, 0, 0), NONE);
            due.same("what " + wrong, due.house.flow(0, 0, 0, wrong), NONE);
            due.same("flow " + wrong, due.house.flow(0, 0, wrong, 0), wrong == NONE ? 4 : NONE);
        }
        // what FANS take is no FLOW
        due.fresh("ports 2;", "fan 0 3;slot;");
        due.flow(NONE, 0);
        due.flow(0, NONE, NONE, NONE);
    }

    private static void promise16() {
        due.fresh("ports 2;", "");
        due.after(0, 0, 1, 0, 2, -1, 3, 0, 4, 0, 5, -1, 6, -1, 7, 0, 8, 0, 9, 1, 10, 0, 11, 0, 12, -2, -1, -2);
        due.fresh("ports 2;", "idle 3;");
        due.after(4, 3, 5, 0, 7, 0, 8, 0);
        due.fresh("ports 2;rounds 1;", "cell 0 0;cell 1 0;slot;cell 0 0;cell 1 0;slot;cell 0 1;slot;slot;slot;");
        // 0 has ACCEPT 1 in SLOT 2; an INPUT and an OUTPUT by SLOTS: 0 0, 1 0, 0 1, 0 0, 1 0
        due.after(0, 3, 1, 6, 2, 3, 3, 0, 4, 0, 5, 0, 6, 1, 7, 2, 8, 0, 9, 1, 10, 3, 11, 0);
        for (int wrong : WRONG) {
            due.same("crossbar " + wrong, due.house.after(wrong, 0, 0), -2);
            due.same("traffic " + wrong, due.house.after(0, wrong, 0), -2);
            due.same("what " + wrong, due.house.after(0, 0, wrong), -2);
        }
        due.same("crossbar 1", due.house.after(1, 0, 0), -2);
        due.same("traffic 1", due.house.after(0, 1, 0), -2);
    }

    private static void promise16Rest() {
        // a FAN that waits longest, split; then one that is split and not yet away
        due.fresh("ports 3;", "fan 0 1;fan 1 7;slot;fan 0 1;slot;idle 2;");
        due.after(0, 2, 1, 2, 2, 1, 3, 1, 4, 1, 5, 0);
        due.fresh("ports 3;", "fan 0 1;fan 1 3;fan 2 7;slot;fan 0 1;fan 1 1;slot;fan 0 1;slot;");
        due.after(3, 1, 2, 0, 0, 0);
        // STARVED: 1 has a CELL for OUTPUT 0, which FANS of 0 take; there are as many SLOTS as PORTS
        due.fresh("ports 2;", "fan 0 1;cell 1 0;slot;");
        due.after(8, 0);
        due.fresh("ports 2;", "fan 0 1;cell 1 0;slot;fan 0 1;slot;");
        due.after(8, 2);
        due.fresh("ports 2;", "fan 0 1;cell 1 0;slot;fan 0 1;slot;slot;");
        due.after(8, 0);
        due.fresh("ports 2;", "idle 2;fan 0 1;cell 1 0;");
        due.after(8, 3);
        // SAME: by CELLS alone, empty ones, too
        due.fresh("ports 4;", "cell 0 1;cell 2 1;fan 3 1;");
        due.after(9, 2);
        due.fresh("ports 4;", "");
        due.after(9, 6);
        // MEETS: three SLOTS of the same pairs are three couples
        due.fresh("ports 2;", "cell 0 1;cell 1 0;slot;".repeat(3) + "cell 0 1;slot;");
        due.after(7, 3, 5, 0, 6, 10);
        // FAIR: the first of several
        due.fresh("ports 2;", "cell 0 1;cell 1 0;slot;cell 0 0;slot;");
        due.after(6, 10);
    }

    private static void promise17() {
        due.fresh("promise 17");
        due.tell(2, NONE, "match 60 5 4;apart 0 1 2;");
        int[][] want = {{1, 60, 5, 4}, {0, 0, 1, 2}};
        due.same("how many", due.house.fact(0, NONE, 0), 2);
        due.same("how many, what 1", due.house.fact(0, NONE, 1), -2);
        for (int k = 0; k < 2; k++) {
            for (int what = 0; what < 4; what++) {
                due.same("fact(0, " + k + ", " + what + ")", due.house.fact(0, k, what), want[k][what]);
            }
            due.same("what 4", due.house.fact(0, k, 4), -2);
        }
        due.same("fact 2", due.house.fact(0, 2, 0), -2);
        due.same("log 1", due.house.fact(1, NONE, 0), -2);
        for (int wrong : WRONG) {
            due.same("log " + wrong, due.house.fact(wrong, 0, 0), -2);
            due.same("what " + wrong, due.house.fact(0, 0, wrong), -2);
            due.same("fact " + wrong, due.house.fact(0, wrong, 0), wrong == NONE ? 2 : -2);
        }
    }

    private static void promise18() {
        due.fresh("ports 2;", "cell 0 0;cell 1 0;slot;", "match 0 0 0;");
        due.fits(0, 4, 1, -1, 2, 0, 3, 0, 10, 10, 11, 20, 12, 30, 13, 40, 14, -2, 4, -2, 9, -2);
        due.fresh("ports 2;pointer 1;", "cell 0 1;cell 1 1;slot;", "");
        due.fits(0, 8, 1, -1, 2, -1, 3, 1, 10, 10, 11, 11, 16, 40, 17, 41, 18, -2);
        due.fresh("ports 2;", "burst 0 3;burst 1 3;slot;", "match 0 0 0;apart 0 1 1;");
        due.fits(0, 1, 1, 1, 2, 0, 3, 0, 10, 10, 11, -2);
        due.fresh("ports 2;", "burst 0 3;burst 1 3;slot;", "match 0 0 0;apart 0 0 0;");
        due.fits(0, 0, 1, -1, 2, -1, 3, -1, 10, -2);
        due.fresh("ports 1;", "", "apart 60 5 5;apart 0 0 0;");
        due.fits(0, 4, 1, -1, 2, 0, 3, -1, 13, 40);
        due.fresh("ports 1;", "", "match 0 0 0;");
        due.fits(0, 0, 3, -1);
        due.fresh("ports 2;", "cell 0 0;slot;", "match 0 0 2;");
        due.fits(0, 0);
        due.fresh("ports 2;", "cell 0 0;slot;", "match 0 2 0;");
        due.fits(0, 0);
        due.fresh("ports 2;", "cell 0 0;slot;", "apart 0 2 0;apart 0 0 2;apart 1 0 0;match 0 0 0;");
        due.fits(0, 8, 3, 0);
        // a SLOT that was not, though there was one in the TRAFFIC before
        due.fresh("ports 2;", "cell 0 0;slot;cell 0 0;slot;", "match 1 0 0;");
        due.fits(0, 8);
        due.tell(1, 0, "cell 0 0;slot;cell 0 0;");
        due.fits(0, 0);
        // by ROUNDS 1 SLOT 0 matches one pair, by more two: 2, 6 of 8 at OUTPUT 0, none or one pair
        due.fresh("ports 2;", "burst 0 3;burst 1 3;slot;slot;", "");
        due.fits(0, 8, 3, 0);
        for (int wrong : WRONG) {
            due.same("crossbar " + wrong, due.house.fits(wrong, 0, 0, 0), -2);
            due.same("traffic " + wrong, due.house.fits(0, wrong, 0, 0), -2);
            due.same("log " + wrong, due.house.fits(0, 0, wrong, 0), -2);
            due.same("what " + wrong, due.house.fits(0, 0, 0, wrong), -2);
        }
        due.same("crossbar 1", due.house.fits(1, 0, 0, 0), -2);
        due.same("traffic 1", due.house.fits(0, 1, 0, 0), -2);
        due.same("log 1", due.house.fits(0, 0, 1, 0), -2);
    }

    /** By hand, of 2 PORTS: what may be of the first draws of a SEED, and how many DEEDS are by each draw. */
    private static void drawn(int seed, String traffic, int... deedsByDraw) {
        due.fresh("ports 2;rounds 1;", traffic);
        for (int n = 0; n <= deedsByDraw.length; n++) {
            int deeds = n == 0 ? 0 : deedsByDraw[n - 1];
            for (int what = 0; what < 130; what++) {
                due.same("drawn " + seed + ", " + n + ", " + what, due.house.drawn(0, seed, n, what),
                    due.house.state(0, 0, deeds, what));
            }
        }
    }

    private static void promise19() {
        drawn(7, "fan 0 3;cell 1 1;slot;cell 1 0;cell 0 0;slot;cell 1 0;slot;cell 0 0;",
            1, 2, 2, 2, 3, 4, 5, 5, 6, 7, 8, 9, 9, 9);
        drawn(12, "cell 1 1;burst 0 2;slot;burst 1 3;slot;slot;slot;cell 1 1;cell 0 1;",
            1, 1, 2, 3, 4, 4, 5, 6, 7, 8, 9, 9, 9, 9);
        due.same("n 60", due.house.drawn(0, -5, 60, 12), -2);
        due.same("n 60", due.house.drawn(0, -5, 60, 0) >= 0, true);
        due.same("n 61", due.house.drawn(0, 1, 61, 0), -2);
        due.same("n -1", due.house.drawn(0, 1, -1, 0), -2);
        due.same("n 0", due.house.drawn(0, 1, 0, 1), 0);
        due.same("crossbar 1", due.house.drawn(1, 1, 1, 0), -2);
        for (int wrong : WRONG) {
            due.same("crossbar " + wrong, due.house.drawn(wrong, 1, 1, 0), -2);
            due.same("n " + wrong, due.house.drawn(0, 1, wrong, 0), -2);
            if (wrong != 100) {
                due.same("what " + wrong, due.house.drawn(0, 1, 1, wrong), -2);
            }
        }
    }

    private static void promise20() {
        due.fresh("promise 20");
        due.tell(1, NONE, "");
        due.tell(2, NONE, "");
        due.tell(2, NONE, "");
        due.same("count(0)", due.house.count(0), 0);
        due.same("count(1)", due.house.count(1), 1);
        due.same("count(2)", due.house.count(2), 2);
        due.same("count(3)", due.house.count(3), -2);
        for (int wrong : WRONG) {
            due.same("count(" + wrong + ")", due.house.count(wrong), -2);
        }
    }

    private static void promise21And22() {
        due.fresh("promises 21, 22");
        CrossbarHouse house = due.house;
        for (int wrong : new int[] {-1, 3, Integer.MAX_VALUE, Integer.MIN_VALUE}) {
            due.same("image(" + wrong + ")", house.image(wrong), false);
            due.same("again(" + wrong + ")", house.again(wrong), false);
        }
        due.same("image(2)", house.image(2), true);
        due.tell(0, NONE, "ports 3;");
        due.tell(1, NONE, "slot;idle 2;");
        due.tell(2, NONE, "apart 1 2 3;");
        due.tell(0, NONE, "ports 7;");
        due.tape("pointer 4;");
        due.same("image(0)", house.image(0), true);
        due.same("again(1)", house.again(1), false);
        due.same("text", house.text(0, 0), 0);
        due.tell(1, 0, "cell 0 0;");
        due.tell(1, NONE, "");
        due.tell(2, 0, "match 3 2 1;match 0 0 0;");
        due.same("image(1)", house.image(1), true);
        due.same("again(0)", house.again(0), true);
        due.same("ports", house.crossbar(0, 0), 3);
        due.same("pointer", house.crossbar(0, 3), 0);
        due.same("traffics", house.count(1), 1);
        due.same("deeds", house.deed(0, NONE, 0), 2);
        due.same("idle", house.deed(0, 1, 1), 2);
        due.same("facts", house.fact(0, NONE, 0), 1);
        due.same("fact", house.fact(0, 0, 3), 3);
        due.same("fault", house.fault(0), 2);
        due.same("place", house.fault(1), 6);
        due.same("the tape", house.end(10), 10);
        due.same("the tape's text", house.text(0, NONE), 1);
        due.same("pointer", house.crossbar(1, 3), 4);
        due.same("again(1)", house.again(1), true);
        due.same("crossbars", house.count(0), 1);
        due.same("pointer", house.crossbar(0, 3), 4);
        due.same("traffics", house.count(1), 2);
        due.same("facts", house.fact(0, NONE, 0), 2);
        due.same("fault", house.fault(0), 0);
        due.same("the tape", house.end(1), NONE);
        due.same("again(2)", house.again(2), true);
        due.same("crossbars", house.count(0), 0);
        due.same("logs", house.count(2), 0);
        due.same("again(0) once more", house.again(0), true);
        due.same("ports", house.crossbar(0, 0), 3);
        due.same("the tape", house.end(10), 10);
        due.same("image over another", house.image(2), true);
        due.same("again(2)", house.again(2), true);
        due.same("ports", house.crossbar(0, 0), 3);
    }
}
