/** Term 2: QUEUES, FANS, GATES, SLOTS, STOP. */
final class SlotSentences {
    private static final String BEGIN = "void begin(Told told, int crossbar, int roundsNow";
    private static final String NO_INPUT = "first >= ports";
    private static final String NO_OUTPUT = "to >> ports != 0";
    private static final String ARRIVED = "arrived |= 1 << first;";
    private static final String BUSY = "matcher.passRounds(rounds);\n            for";

    private SlotSentences() {
    }

    @Says(where = "Term 2", words = "A TRAFFIC in a CROSSBAR begins with no CELLS, no FANS, no SLOT yet")
    @Broken(in = BEGIN, from = "came.size = 0;", to = "")
    @Broken(in = BEGIN, from = "past.slots = 0;", to = "")
    @Broken(in = BEGIN, from = "lost = 0;", to = "")
    @Broken(in = BEGIN, from = "cellsWent = 0;", to = "")
    @Broken(in = BEGIN, from = "fansWent = 0;", to = "")
    @Broken(in = BEGIN, from = "fansIn[p] = 0;", to = "")
    @Broken(in = BEGIN, from = "headLeft[p] = 0;", to = "")
    @Broken(in = BEGIN, from = "takenBy[p] = NONE;", to = "")
    @Broken(in = BEGIN, from = "cellsIn[q] = 0;", to = "")
    @Broken(in = "void begin(int portsNow, int pointer)", from = "wanted[p] = 0;", to = "")
    @Broken(in = "void begin(int portsNow, int pointer)", from = "free();", to = "")
    static void trafficBeginsEmpty(Due due) {
        due.fresh("ports 2;depth 1;", "cell 0 0;fan 1 3;slot;cell 0 0;fan 1 2;slot;cell 1 0;fan 0 2;slot;cell 0 1;cell 1 1;slot;"
            + "fan 0 3;fan 1 3;slot;burst 0 3;fan 1 1;");
        due.same("another traffic", due.tell(1, -1, ""), 1);
        int[] nothing = {0, 1, 2, 3, 4, 30, 31, 40, 41, 100, 101, 110, 111};
        for (int what : nothing) {
            due.house.stop(0, 0);
            due.same("state(0, 1, 0, " + what + ")", due.house.state(0, 1, 0, what), 0);
        }
        due.tell(1, 0, "cell 0 0;fan 1 2;slot;");
        for (int what : new int[] {60, 61, 70, 71}) {
            due.house.stop(0, 0);
            due.same("state(0, 1, 0, " + what + ")", due.house.state(0, 1, 0, what), -1);
        }
        due.tell(1, 0, "cell 1 1;");
        due.same("a cell for no slot", due.house.state(0, 0, 1, 111), 1);
        due.tell(1, 1, "slot;");
        due.house.stop(0, 0);
        due.same("a slot without cells", due.house.state(0, 1, 1, 61), -1);
    }

    @Says(where = "Term 2", words = "no SLOT yet")
    @Broken(in = BEGIN, from = "arrived = 0;", to = "")
    static void noDeedCameFromAnyInputAtFirst(Due due) {
        due.fresh("ports 2;", "cell 0 0;cell 1 1;");
        due.same("stop", due.house.stop(0, 0), 2);
        due.same("stop once more", due.house.stop(0, 0), 2);
    }

    @Says(where = "Term 2", words = "GRANT of each OUTPUT, ACCEPT of each INPUT: POINTER, remainder by PORTS")
    @Broken(in = "void begin(int portsNow", from = "grant[p] = pointer % ports;", to = "grant[p] = Math.min(pointer, ports - 1);")
    @Broken(in = "void begin(int portsNow", from = "accept[p] = pointer % ports;", to = "accept[p] = Math.min(pointer, ports - 1);")
    @Broken(in = "void begin(int portsNow", from = "grant[p] = pointer % ports;", to = "grant[p] = 0;")
    @Broken(in = "void begin(int portsNow", from = "accept[p] = pointer % ports;", to = "accept[p] = p == 0 ? pointer % ports : 0;")
    static void pointersBeginByRemainder(Due due) {
        int[][] portsPointerFirst = {{6, 5, 5}, {5, 5, 0}, {4, 5, 1}, {3, 5, 2}, {2, 5, 1}, {1, 5, 0}, {3, 3, 0}, {3, 2, 2}};
        for (int[] p : portsPointerFirst) {
            due.fresh("ports " + p[0] + ";pointer " + p[1] + ";", "");
            for (int k = 0; k < p[0]; k++) {
                due.state(0, 10 + k, p[2], 20 + k, p[2]);
            }
        }
    }

    @Says(where = "Term 2", words = "no GATE was SHUT")
    @Broken(in = BEGIN, from = "shut = 0;", to = "")
    @Broken(in = BEGIN, from = "shutOf[p] = 0;", to = "")
    static void noGateWasShutAtFirst(Due due) {
        due.fresh("ports 2;", "burst 0 3;");
        for (int what : new int[] {5, 50, 51}) {
            due.house.stop(0, 0);
            due.state(0, what, 0);
        }
    }

    @Says(where = "Term 2", words = "An INPUT has a QUEUE of CELLS for each OUTPUT")
    @Broken(in = "boolean takeCell", from = "cellsIn[queue] >= depth", to = "cellsIn[queue] + cellsIn[i * PORTS_MOST] >= depth")
    @Broken(in = "boolean takeCell", from = "cellsIn[queue] >= depth", to = "cellsIn[queue] + cellsIn[o] >= depth")
    static void queuesAreByInputAndOutput(Due due) {
        due.fresh("ports 2;depth 1;", "burst 0 3;burst 1 3;");
        due.state(2, 2, 0, 100, 1, 101, 1, 110, 1, 111, 1);
    }

    @Says(where = "Term 2", words = "and one of FANS")
    @Broken(in = "void takeFan", from = "fansIn[i] >= depth", to = "fansIn[i] + cellsIn[i * PORTS_MOST] >= depth")
    @Broken(in = "void takeFan", from = "fansIn[i] >= depth", to = "fansIn[i] + fansIn[0] >= depth")
    static void fansHaveAQueueOfTheirOwn(Due due) {
        // the FAN of 1 takes OUTPUT 0, so that the CELL of 0 waits
        due.fresh("ports 2;depth 1;", "cell 0 0;fan 1 1;slot;fan 0 2;fan 1 2;");
        due.state(3, 100, 1);
        due.state(5, 2, 0, 30, 1, 31, 1);
    }

    @Says(where = "Term 2", words = "each of DEPTH at most; what comes to a full one is LOST")
    @Broken(in = "boolean takeCell", from = "cellsIn[queue] >= depth", to = "cellsIn[queue] > depth")
    @Broken(in = "boolean takeCell", from = "cellsIn[queue] >= depth", to = "cellsIn[queue] >= Math.min(depth, DEPTH_MOST - 1)")
    @Broken(in = "boolean takeCell", from = "cellsIn[queue] >= depth", to = "cellsIn[queue] >= Math.max(depth, 2)")
    static void fullQueueOfCellsLoses(Due due) {
        for (int depth = 1; depth <= 9; depth++) {
            due.fresh("ports 2;depth " + depth + ";", "cell 0 0;fan 1 1;slot;".repeat(depth) + "cell 0 0;");
            due.state(3 * depth, 100, depth, 2, 0);
            due.state(3 * depth + 1, 100, depth, 2, 1);
        }
    }

    @Says(where = "Term 2", words = "each of DEPTH at most; what comes to a full one is LOST")
    @Broken(in = "void takeFan", from = "fansIn[i] >= depth", to = "fansIn[i] > depth")
    @Broken(in = "void takeFan", from = "fansIn[i] >= depth", to = "fansIn[i] >= Math.min(depth, DEPTH_MOST - 1)")
    @Broken(in = "void takeFan", from = "fansIn[i] >= depth", to = "fansIn[i] >= Math.max(depth, 2)")
    static void fullQueueOfFansLoses(Due due) {
        // of FANS for the same OUTPUT that of 0 goes
        for (int depth = 1; depth <= 9; depth++) {
            due.fresh("ports 2;depth " + depth + ";", "fan 0 1;fan 1 1;slot;".repeat(depth) + "fan 1 1;");
            due.state(3 * depth, 31, depth, 2, 0);
            due.state(3 * depth + 1, 31, depth, 2, 1);
        }
    }

    @Says(where = "Term 2", words = "An INPUT has a QUEUE of CELLS for each OUTPUT, and one of FANS, each of DEPTH at most")
    @Broken(in = "void moveUp", from = "k < from + size", to = "k <= from + size")
    @Broken(in = "void moveUp", from = "k < from + size", to = "k < from + size - 1")
    static void lastQueueIsAsDeepAsAll(Due due) {
        // FANS of 0 hold back what 5 has for OUTPUT 5, till there are as many as may be; then they go in their order
        due.fresh("ports 6;depth 9;", "fan 0 32;cell 5 5;slot;".repeat(9) + "idle 9;");
        due.state(27, 155, 9, 2, 0, 3, 0);
        due.state(28, 155, 0, 3, 9);
        for (int n = 0; n < 9; n++) {
            due.cell(2 * n + 1, 5, 32, 0, n, 9 + n, 0);
        }
        due.fresh("ports 6;depth 9;", "fan 0 32;fan 5 32;slot;".repeat(9) + "idle 9;");
        due.state(27, 35, 9, 45, 32, 2, 0, 4, 9);
        due.state(28, 35, 0, 45, 0, 4, 18);
        for (int n = 0; n < 9; n++) {
            due.cell(2 * n + 1, 5, 32, 1, n, 9 + n, 0);
        }
    }

    @Says(where = "Term 2", words = "CELLS and FANS that come (LOST ones, too) are numbered from 0 on")
    @Broken(in = "boolean takeCell", from = "int number = came.add(", to = "int number = isLost ? NONE : came.add(")
    @Broken(in = "void takeFan", from = "int number = came.add(", to = "int number = isLost ? NONE : came.add(")
    static void lostOnesAreNumbered(Due due) {
        due.fresh("ports 2;depth 1;", "cell 0 0;fan 1 1;slot;cell 0 0;fan 1 1;slot;fan 0 3;fan 1 3;slot;fan 1 2;cell 0 1;");
        due.cell(0, 0, 1, 0, 0, -1, 0);
        due.cell(1, 1, 1, 1, 0, 0, 0);
        due.cell(2, 0, 1, 0, 1, -1, 1);
        due.cell(3, 1, 1, 1, 1, 1, 0);
        due.cell(4, 0, 3, 1, 2, 2, 0);
        due.cell(5, 1, 3, 1, 2, -1, 0);
        due.cell(6, 1, 2, 1, 3, -1, 1);
        due.cell(7, 0, 2, 0, 3, -1, 0);
    }

    @Says(where = "Term 2", words = "cell: a CELL comes to that QUEUE")
    @Broken(in = "boolean takeCell", from = "int queue = i * PORTS_MOST + o;", to = "int queue = o * PORTS_MOST + i;")
    static void cellComesToItsQueue(Due due) {
        due.fresh("ports 6;", "cell 5 0;cell 0 4;cell 3 3;");
        due.state(3, 1, 3, 150, 1, 104, 1, 133, 1, 105, 0, 140, 0);
    }

    @Says(where = "Term 2", words = "fan: a FAN comes, LEFT of it are these OUTPUTS")
    @Broken(in = "void takeFan", from = "headLeft[i] = outputs;", to = "headLeft[i] = outputs & 31;")
    static void fanComesWithAllLeft(Due due) {
        due.fresh("ports 6;", "fan 5 63;fan 0 32;");
        due.state(2, 1, 2, 35, 1, 45, 63, 30, 1, 40, 32, 41, 0);
    }

    @Says(where = "Term 2", words = "burst: by these OUTPUTS, rising: the GATE of that OUTPUT is opened, a CELL for it comes")
    @Broken(in = "void takeBurst", from = "for (int o = 0; o < ports && goesOn; o++)", to = "for (int o = ports - 1; o >= 0 && goesOn; o--)")
    static void burstComesRising(Due due) {
        due.fresh("ports 4;", "burst 2 11;");
        due.cell(0, 2, 1, 0);
        due.cell(1, 2, 2, 0);
        due.cell(2, 2, 8, 0);
        due.cell(3, -2);
        due.state(1, 120, 1, 121, 1, 122, 0, 123, 1);
    }

    @Says(where = "Term 2", words = "if that is LOST, no more come")
    @Broken(in = "void takeBurst", from = "goesOn = takeCell(i, o);", to = "takeCell(i, o);")
    @Broken(in = "void takeBurst", from = "goesOn = takeCell(i, o);", to = "goesOn = takeCell(i, o) || o == 0;")
    static void behindALostOneNoMoreCome(Due due) {
        // the CELL of 0 for OUTPUT 1 waits behind the FAN of 1
        due.fresh("ports 3;depth 1;", "cell 0 1;fan 1 2;slot;burst 0 7;");
        due.state(4, 1, 4, 2, 1, 100, 1, 101, 1, 102, 0);
        due.fresh("ports 3;depth 1;", "cell 0 0;fan 1 1;slot;burst 0 7;");
        due.state(4, 1, 3, 2, 1, 100, 1, 101, 0, 102, 0);
    }

    @Says(where = "Term 2", words = "then all GATES that were opened are SHUT, the last opened one first")
    @Broken(in = "void takeBurst", from = "for (int o = ports - 1; o >= 0; o--)", to = "for (int o = 0; o < ports; o++)")
    @Broken(in = "void takeBurst", from = "opened |= 1 << o;\n                    goesOn = takeCell(i, o);",
        to = "goesOn = takeCell(i, o);\nopened |= goesOn ? 1 << o : 0;")
    @Broken(in = "void takeBurst", from = "if (holds(opened, o))", to = "if (holds(outputs, o))")
    static void lastOpenedGateIsShutFirst(Due due) {
        due.fresh("ports 4;", "burst 0 15;");
        due.state(1, 5, 4, 53, 1, 52, 2, 51, 3, 50, 4);
        // the GATE of the LOST one was opened, that of OUTPUT 2 was not
        due.fresh("ports 3;depth 1;", "cell 0 1;fan 1 2;slot;burst 0 7;");
        due.state(4, 5, 2, 51, 1, 50, 2, 52, 0);
    }

    @Says(where = "Term 2", words = "SHUT of a GATE is how many were SHUT in all by then, itself, too")
    @Broken(in = "void takeBurst", from = "shut++;\n                    shutOf[o] = shut;", to = "shutOf[o] = shut;\nshut++;")
    @Broken(in = "void takeBurst", from = "shutOf[o] = shut;", to = "shutOf[o]++;")
    @Broken(in = "void takeBurst", from = "int opened = 0;", to = "int opened = 0;\nshut = 0;")
    static void shutCountsInAllWithItself(Due due) {
        due.fresh("ports 2;", "burst 0 1;burst 1 2;slot;burst 0 2;");
        due.state(1, 5, 1, 50, 1, 51, 0);
        due.state(2, 5, 2, 50, 1, 51, 2);
        due.state(4, 5, 3, 50, 1, 51, 3);
    }

    @Says(where = "Term 2", words = "These three can't be, if there is no such INPUT")
    @Broken(in = "boolean bring", from = NO_INPUT, to = "first >= ports + (kind == DEED_CELL ? 1 : 0)")
    @Broken(in = "boolean bring", from = NO_INPUT, to = "first >= ports + (kind == DEED_FAN ? 1 : 0)")
    @Broken(in = "boolean bring", from = NO_INPUT, to = "first >= ports + (kind == DEED_BURST ? 1 : 0)")
    @Broken(in = "boolean bring", from = NO_INPUT, to = "first >= ports - 1")
    @Broken(in = "boolean bring", from = NO_INPUT, to = "first == ports")
    static void noDeedFromNoInput(Due due) {
        for (int ports = 1; ports <= 5; ports++) {
            for (String deed : new String[] {"cell ", "fan ", "burst "}) {
                String outputs = deed.equals("cell ") ? " 0;" : " 1;";
                for (int input = ports; input <= 5; input++) {
                    due.stops("ports " + ports + ";", "slot;" + deed + input + outputs, 1);
                }
                due.stops("ports " + ports + ";", "slot;" + deed + (ports - 1) + outputs, 2);
            }
        }
    }

    @Says(where = "Term 2", words = "if there is no such INPUT, OUTPUT (any)")
    @Broken(in = "boolean bring", from = NO_OUTPUT, to = "to >> ports + (kind == DEED_CELL ? 1 : 0) != 0")
    @Broken(in = "boolean bring", from = NO_OUTPUT, to = "to >> ports + (kind == DEED_FAN ? 1 : 0) != 0")
    @Broken(in = "boolean bring", from = NO_OUTPUT, to = "to >> ports + (kind == DEED_BURST ? 1 : 0) != 0")
    @Broken(in = "boolean bring", from = NO_OUTPUT, to = "to >> ports - 1 != 0")
    static void noDeedForNoOutput(Due due) {
        for (int ports = 1; ports <= 5; ports++) {
            String bar = "ports " + ports + ";";
            due.stops(bar, "slot;cell 0 " + ports + ";", 1);
            due.stops(bar, "slot;cell 0 " + (ports - 1) + ";", 2);
            for (String deed : new String[] {"fan 0 ", "burst 0 "}) {
                due.stops(bar, "slot;" + deed + (1 << ports) + ";", 1);
                due.stops(bar, "slot;" + deed + ((1 << ports) - 1) + ";", 2);
            }
        }
        due.stops("ports 6;", "cell 5 5;fan 4 63;burst 3 63;", 3);
    }

    @Says(where = "Term 2", words = "OUTPUT (any)")
    @Broken(in = "boolean bring", from = NO_OUTPUT, to = "(to & (1 << ports) - 1) == 0")
    static void oneMissingOutputIsEnough(Due due) {
        due.stops("ports 3;", "fan 0 9;", 0);
        due.stops("ports 3;", "burst 0 9;", 0);
        due.stops("ports 3;", "fan 0 7;burst 1 5;", 2);
    }

    @Says(where = "Term 2", words = "or a DEED of these three came from that INPUT behind the last SLOT")
    @Broken(in = "boolean bring", from = ARRIVED, to = "arrived |= kind == DEED_CELL ? 0 : 1 << first;")
    @Broken(in = "boolean bring", from = ARRIVED, to = "arrived |= kind == DEED_FAN ? 0 : 1 << first;")
    @Broken(in = "boolean bring", from = ARRIVED, to = "arrived |= kind == DEED_BURST ? 0 : 1 << first;")
    @Broken(in = "boolean bring", from = "holds(arrived, first)", to = "kind == DEED_CELL && holds(arrived, first)")
    @Broken(in = "boolean bring", from = "holds(arrived, first)", to = "kind != DEED_CELL && holds(arrived, first)")
    @Broken(in = "boolean bring", from = "holds(arrived, first)", to = "arrived != 0")
    @Broken(in = "void passSlot()", from = "arrived = 0;", to = "")
    static void oneDeedFromAnInputInASlot(Due due) {
        String[] deeds = {"cell 0 0;", "fan 0 1;", "burst 0 3;"};
        for (String first : deeds) {
            for (String second : deeds) {
                due.stops("ports 2;", first + second, 1);
                due.stops("ports 2;", first + "cell 1 0;" + second, 2);
                due.stops("ports 2;", first + "slot;" + second, 3);
                due.stops("ports 2;", first + "idle 2;" + second, 3);
            }
        }
    }

    @Says(where = "Term 2", words = "a DEED of these three came from that INPUT")
    @Broken(in = "boolean bring", from = "return true;",
        to = "if (came.size > 0 && came.isLost[came.size - 1]) {\narrived &= ~(1 << first);\n}\nreturn true;")
    static void lostDeedCameAllTheSame(Due due) {
        due.stops("ports 2;depth 1;", "cell 0 0;fan 1 1;slot;cell 0 0;cell 0 1;", 4);
        due.stops("ports 2;depth 1;", "fan 0 1;fan 1 1;slot;fan 1 1;cell 1 1;", 4);
    }

    @Says(where = "Term 2", words = "slot: a SLOT goes by, idle: so many do")
    @Broken(in = "static int slotsOf", from = "kind == DEED_IDLE ? first : 0", to = "kind == DEED_IDLE ? first + 1 : 0")
    @Broken(in = "static int slotsOf", from = "kind == DEED_IDLE ? first : 0", to = "kind == DEED_IDLE ? 1 : 0")
    static void idleIsSoManySlots(Due due) {
        due.fresh("ports 2;", "slot;idle 1;idle 9;");
        due.state(0, 0, 0);
        due.state(1, 0, 1);
        due.state(2, 0, 2);
        due.state(3, 0, 11);
        due.fresh("ports 2;", "idle 9;".repeat(40));
        due.state(40, 0, 360);
    }

    @Says(where = "Term 2", words = "In a SLOT, first: of INPUTS that have FANS")
    @Broken(in = "void passSlot()", from = "int heads = inputsWithFans();", to = "matcher.passRounds(rounds);\nint heads = 0;")
    @Broken(in = "int inputsWithFans", from = "if (fansIn[i] > 0)", to = "if (fansIn[i] > 1)")
    static void fansGoBeforeCells(Due due) {
        due.fresh("ports 2;", "cell 0 0;fan 1 1;slot;slot;");
        due.state(3, 70, 1, 60, -1, 3, 0, 4, 1);
        due.state(4, 70, -1, 60, 0, 3, 1, 4, 1);
    }

    @Says(where = "Term 2", words = "of INPUTS that have FANS, the first of which is the HEAD")
    @Broken(in = "void takeFan", from = "if (fansIn[i] == 0) {", to = "headLeft[i] |= outputs;\nif (fansIn[i] == 0) {")
    @Broken(in = "void takeFan", from = "if (fansIn[i] == 0) {", to = "if (fansIn[i] >= 0) {")
    static void fanBehindTheHeadWaits(Due due) {
        due.fresh("ports 2;", "fan 0 1;fan 1 1;slot;fan 1 2;slot;slot;");
        due.state(4, 31, 2, 41, 1);
        due.state(5, 70, 1, 71, -1, 31, 1, 41, 2);
        due.state(6, 70, -1, 71, 1, 31, 0, 41, 0);
        due.fresh("ports 6;", "fan 0 1;fan 4 1;fan 5 1;slot;fan 4 6;fan 5 48;slot;slot;");
        due.state(7, 44, 6, 34, 1, 45, 1, 35, 2);
        due.state(8, 71, 4, 72, 4, 70, 5, 44, 0, 45, 48);
    }

    @Says(where = "Term 2", words = "a set of most INPUTS no two of whose HEADS want one OUTPUT")
    @Broken(in = "int mostApart", from = "Integer.bitCount(set) > Integer.bitCount(best)", to = "best == 0")
    @Broken(in = "int mostApart", from = "&& areApart(set)", to = "&& (areApart(set) || set == heads)")
    static void mostInputsAreServed(Due due) {
        due.fresh("ports 4;", "fan 0 15;fan 1 1;fan 2 2;slot;");
        due.state(4, 70, 1, 71, 2, 72, 0, 73, 0, 40, 3, 4, 2);
        due.fresh("ports 6;", "fan 0 1;fan 1 2;fan 2 4;fan 3 8;fan 4 16;fan 5 32;slot;");
        due.state(7, 70, 0, 71, 1, 72, 2, 73, 3, 74, 4, 75, 5, 4, 6);
    }

    @Says(where = "Term 2", words = "want one OUTPUT of what is LEFT")
    @Broken(in = "boolean areApart", from = "headLeft[i] : 0", to = "came.outputs[fanRows[i * DEPTH_MOST]] : 0")
    static void whatWasSentIsWantedNoMore(Due due) {
        // of 0 OUTPUT 3 is sent; then 0 and 1 are apart, and {0, 1} is less than {0, 2}
        due.fresh("ports 4;", "fan 0 11;fan 1 1;fan 2 2;slot;fan 1 12;fan 2 4;slot;");
        due.state(4, 70, 1, 71, 2, 72, -1, 73, 0, 40, 3);
        due.state(7, 70, 0, 71, 0, 72, 1, 73, 1, 42, 4);
    }

    @Says(where = "Term 2", words = "of several the least (bits), is SERVED")
    @Broken(in = "int mostApart", from = "Integer.bitCount(set) > Integer.bitCount(best)", to = "Integer.bitCount(set) >= Integer.bitCount(best)")
    static void leastSetIsServed(Due due) {
        due.fresh("ports 3;", "fan 0 1;fan 1 1;fan 2 1;slot;slot;slot;");
        due.state(4, 70, 0);
        due.state(5, 70, 1);
        due.state(6, 70, 2);
        // {1, 2} is less than {0, 3}
        due.fresh("ports 4;", "fan 0 3;fan 1 5;fan 2 10;fan 3 12;slot;");
        due.state(5, 70, 1, 71, 2, 72, 1, 73, 2, 40, 3, 43, 12);
    }

    @Says(where = "Term 2", words = "each sends to all that is LEFT")
    @Broken(in = "void sendFans", from = "sendFan(i, headLeft[i]);", to = "sendFan(i, Integer.lowestOneBit(headLeft[i]));")
    static void servedOneSendsToAll(Due due) {
        due.fresh("ports 6;", "fan 2 63;slot;");
        due.state(2, 70, 2, 71, 2, 72, 2, 73, 2, 74, 2, 75, 2, 4, 1);
        // 1 and 2 are SERVED; 0 would take OUTPUT 1, if 1 sent to one alone
        due.fresh("ports 4;", "fan 0 14;fan 1 3;fan 2 4;slot;");
        due.state(4, 70, 1, 71, 1, 72, 2, 73, 0, 40, 6, 4, 2);
    }

    @Says(where = "Term 2", words = "each OUTPUT that none of these took and that is LEFT of the HEAD of any is taken by the least such INPUT")
    @Broken(in = "void sendFans", from = "for (int i = 0; i < ports && isFree; i++)", to = "for (int i = ports - 1; i >= 0 && isFree; i--)")
    @Broken(in = "void sendFans", from = "boolean isFree = holds(matcher.freeOutputs, o);", to = "boolean isFree = false;")
    @Broken(in = "void sendFans", from = "for (int o = 0; o < ports; o++)", to = "for (int o = 1; o < ports; o++)")
    static void whatIsFreeIsTakenByTheLeast(Due due) {
        due.fresh("ports 2;", "fan 0 2;fan 1 3;slot;");
        due.state(3, 70, 1, 71, 0, 41, 2);
        due.fresh("ports 3;", "fan 0 1;fan 1 3;fan 2 7;slot;");
        due.state(4, 70, 0, 71, 1, 72, 2, 40, 0, 41, 1, 42, 3, 4, 1);
        due.fresh("ports 4;", "fan 0 1;fan 1 13;fan 2 15;slot;");
        due.state(4, 70, 0, 71, 2, 72, 1, 73, 1, 41, 1, 42, 13);
    }

    @Says(where = "Term 2", words = "A HEAD of which nothing is LEFT is away")
    @Broken(in = "void endSending", from = "if (headLeft[i] == 0)", to = "if (headLeft[i] >= 0)")
    @Broken(in = "void endSending", from = "fansIn[i]--;", to = "fansIn[i] = 0;")
    static void headWithNothingLeftIsAway(Due due) {
        due.fresh("ports 2;", "fan 0 1;fan 1 3;slot;fan 1 1;slot;slot;");
        due.state(3, 4, 1, 30, 0, 40, 0, 31, 1, 41, 1);
        due.state(5, 4, 2, 31, 1, 41, 1, 70, 1);
        due.state(6, 4, 3, 31, 0, 41, 0);
    }

    @Says(where = "Term 2", words = "INPUTS that sent")
    @Broken(in = "void passSlot()", from = BUSY, to = "matcher.freeInputs = (1 << ports) - 1;\n" + BUSY)
    @Broken(in = "void passSlot()", from = BUSY, to = "matcher.freeInputs &= ~heads;\n" + BUSY)
    static void inputsThatSentAreBusy(Due due) {
        due.fresh("ports 2;", "cell 0 1;fan 1 2;slot;fan 0 1;slot;slot;");
        due.state(3, 61, -1, 101, 1);
        due.state(5, 70, 0, 61, -1, 101, 1);
        due.state(6, 61, 0, 101, 0);
        // one that sent a part is BUSY, too
        due.fresh("ports 3;", "cell 1 2;fan 2 4;slot;fan 0 1;fan 1 3;slot;");
        due.state(6, 70, 0, 71, 1, 62, -1);
        // one the FAN of which sent nothing is not
        due.fresh("ports 2;", "cell 1 1;fan 0 2;slot;fan 0 1;fan 1 1;slot;");
        due.state(6, 70, 0, 61, 1, 31, 1);
    }

    @Says(where = "Term 2", words = "OUTPUTS that were taken, are BUSY in this SLOT")
    @Broken(in = "void passSlot()", from = BUSY, to = "matcher.freeOutputs = (1 << ports) - 1;\n" + BUSY)
    @Broken(in = "void passSlot()", from = "matcher.free();", to = "if (past.slots == 0) {\nmatcher.free();\n}")
    static void outputsThatWereTakenAreBusy(Due due) {
        due.fresh("ports 2;", "cell 0 0;fan 1 1;slot;slot;");
        due.state(3, 70, 1, 60, -1, 100, 1);
        due.state(4, 70, -1, 60, 0, 100, 0);
    }

    @Says(where = "Term 2", words = "Then, ROUNDS times")
    @Broken(in = "void passRounds", from = "r < rounds", to = "r <= rounds")
    @Broken(in = "void passRounds", from = "r < rounds", to = "r < Math.min(rounds, 3)")
    @Broken(in = "void passRounds", from = "r < rounds", to = "r < Math.max(rounds, 2)")
    static void roundsAreSoMany(Due due) {
        // all pointers are alike: each of the ROUNDS makes one pair
        for (int rounds = 1; rounds <= 4; rounds++) {
            due.fresh("ports 6;rounds " + rounds + ";", "burst 0 63;burst 1 63;burst 2 63;burst 3 63;burst 4 63;burst 5 63;slot;");
            due.state(7, 3, rounds);
        }
    }

    @Says(where = "Term 2", words = "each INPUT that is not BUSY asks all OUTPUTS that are not, for which it has CELLS")
    @Broken(in = "void sendCell", from = "matcher.wanted[o] &= ~(1 << i);", to = "")
    @Broken(in = "int passRound", from = "wanted[o] & freeInputs", to = "wanted[o]")
    @Broken(in = "int passRound", from = "holds(freeOutputs, o) ? wanted[o] & freeInputs : 0", to = "wanted[o] & freeInputs")
    static void onlyForItsCellsAnInputAsks(Due due) {
        due.fresh("ports 2;rounds 4;", "cell 0 0;cell 1 0;slot;slot;slot;");
        due.state(3, 60, 0, 61, -1, 3, 1);
        due.state(4, 60, 1, 61, -1, 3, 2);
        due.state(5, 60, -1, 61, -1, 3, 2);
        due.fresh("ports 2;rounds 4;", "burst 0 3;slot;slot;");
        due.state(2, 60, 0, 61, -1, 3, 1);
        due.state(3, 60, -1, 61, 0, 3, 2);
    }

    @Says(where = "Term 2", words = "each OUTPUT that was asked grants the first INPUT that asked it, from its GRANT on (behind the last one 0 again)")
    @Broken(in = "int passRound", from = "firstFrom(asking, grant[o], ports)", to = "firstFrom(asking, 0, ports)")
    @Broken(in = "int passRound", from = "firstFrom(asking, grant[o], ports)", to = "firstFrom(asking, next(grant[o], ports), ports)")
    @Broken(in = "int passRound", from = "firstFrom(asking, grant[o], ports)", to = "firstFrom(asking >> grant[o] << grant[o], grant[o], ports)")
    static void grantsGoFromThePointerOn(Due due) {
        String[] pointerInputsGranted = {"0 0 1 0", "1 0 1 1", "1 0 2 2", "2 0 1 0", "2 1 2 2", "2 0 2 2", "0 1 2 1"};
        for (String row : pointerInputsGranted) {
            String[] p = row.split(" ");
            due.fresh("ports 3;rounds 1;pointer " + p[0] + ";", "cell " + p[1] + " 1;cell " + p[2] + " 1;slot;");
            due.state(3, 61, Integer.parseInt(p[3]), 3, 1);
        }
    }

    @Says(where = "Term 2", words = "each INPUT that was granted accepts the first OUTPUT that granted it, from its ACCEPT on, likewise")
    @Broken(in = "int passRound", from = "firstFrom(granted[i], accept[i], ports)", to = "firstFrom(granted[i], 0, ports)")
    @Broken(in = "int passRound", from = "firstFrom(granted[i], accept[i], ports)", to = "firstFrom(granted[i], next(accept[i], ports), ports)")
    @Broken(in = "int passRound", from = "firstFrom(granted[i], accept[i], ports)", to = "firstFrom(granted[i] >> accept[i] << accept[i], accept[i], ports)")
    static void acceptsGoFromThePointerOn(Due due) {
        int[][] pointerOutputsAccepted = {{0, 3, 0}, {1, 3, 1}, {1, 5, 2}, {2, 3, 0}, {2, 6, 2}, {2, 5, 2}, {0, 6, 1}};
        for (int[] p : pointerOutputsAccepted) {
            due.fresh("ports 3;rounds 1;pointer " + p[0] + ";", "burst 1 " + p[1] + ";slot;");
            due.state(2, 60 + p[2], 1, 3, 1);
        }
    }

    @Says(where = "Term 2", words = "they are MATCHED, and BUSY")
    @Broken(in = "void pair", from = "freeInputs &= ~(1 << i);", to = "")
    @Broken(in = "void pair", from = "freeOutputs &= ~(1 << o);", to = "")
    static void matchedOnesAreBusy(Due due) {
        // 0 has CELLS for both, 1 for OUTPUT 0, which 0 accepts in the first of four ROUNDS
        due.fresh("ports 2;rounds 4;", "burst 0 3;cell 1 0;slot;");
        due.state(3, 60, 0, 61, -1, 3, 1, 100, 0, 101, 1, 110, 1);
    }

    @Says(where = "Term 2", words = "in the first of these ROUNDS GRANT of that OUTPUT is 1 more than the INPUT, ACCEPT of that INPUT 1 more than the OUTPUT")
    @Broken(in = "void passRounds", from = "passRound(r == 0)", to = "passRound(true)")
    @Broken(in = "int passRound", from = "granted[i] |= 1 << o;", to = "granted[i] |= 1 << o;\ngrant[o] = isFirst ? next(i, ports) : grant[o];")
    @Broken(in = "void pair", from = "grant[o] = next(i, ports);", to = "grant[o] = next(grant[o], ports);")
    @Broken(in = "void pair", from = "accept[i] = next(o, ports);", to = "accept[i] = next(accept[i], ports);")
    static void pointersSlideInTheFirstRound(Due due) {
        // OUTPUT 1 grants 0, too, which does not accept it, and is MATCHED with 1 in the second of the ROUNDS
        due.fresh("ports 3;rounds 2;", "burst 0 3;burst 1 3;slot;");
        due.state(3, 60, 0, 61, 1, 20, 1, 21, 0, 22, 0, 10, 1, 11, 0, 12, 0);
        due.fresh("ports 4;rounds 1;", "cell 1 2;slot;");
        due.state(2, 62, 1, 22, 2, 11, 3, 20, 0, 10, 0);
    }

    @Says(where = "Term 2", words = "ACCEPT of that INPUT 1 more than the OUTPUT, remainder by PORTS")
    @Broken(in = "void pair", from = "grant[o] = next(i, ports);", to = "grant[o] = Math.min(i + 1, ports - 1);")
    @Broken(in = "void pair", from = "accept[i] = next(o, ports);", to = "accept[i] = Math.min(o + 1, ports - 1);")
    @Broken(in = "int next(", from = "k + 1 >= size ? 0 : k + 1", to = "k + 1 >= PORTS_MOST ? 0 : k + 1")
    static void pointersSlideFromTheLastToZero(Due due) {
        for (int ports = 1; ports <= 6; ports++) {
            int last = ports - 1;
            due.fresh("ports " + ports + ";pointer 1;", "cell " + last + " " + last + ";slot;");
            due.state(2, 60 + last, last, 20 + last, 0, 10 + last, 0);
        }
    }

    @Says(where = "Term 2", words = "Then of each MATCHED INPUT the first CELL of that QUEUE goes")
    @Broken(in = "void sendCell", from = "cellRows[queue * DEPTH_MOST]", to = "cellRows[queue * DEPTH_MOST + cellsIn[queue] - 1]")
    static void firstCellGoesFirst(Due due) {
        due.fresh("ports 2;", "cell 0 0;fan 1 1;slot;cell 0 0;fan 1 1;slot;cell 0 0;slot;slot;");
        due.cell(0, 0, 1, 0, 0, 2);
        due.cell(2, 0, 1, 0, 1, 3);
        due.cell(4, 0, 1, 0, 2, -1);
    }

    @Says(where = "Term 2", words = "SLOTS are numbered from 0 on")
    @Broken(in = "int add(int from", from = "couldFirst[k] = slot;", to = "couldFirst[k] = slot + 1;")
    @Broken(in = "void sendCell", from = "= past.slots;", to = "= past.slots + 1;")
    @Broken(in = "void endSending", from = "= past.slots;", to = "= past.slots + 1;")
    static void firstSlotIsZero(Due due) {
        due.fresh("ports 2;", "cell 0 0;fan 1 2;slot;cell 0 0;slot;");
        due.cell(0, 0, 1, 0, 0, 0);
        due.cell(1, 1, 2, 1, 0, 0);
        due.cell(2, 0, 1, 0, 1, 1);
    }

    @Says(where = "Term 2", words = "STOP: the first DEED that can't be")
    @Broken(in = "int follow", from = "return k;", to = "return k + 1;")
    @Broken(in = "int follow", from = "return k;", to = "continue;")
    static void stopIsTheFirstThatCannotBe(Due due) {
        due.stops("ports 2;", "cell 2 0;", 0);
        due.stops("ports 2;", "cell 0 0;cell 0 0;slot;cell 2 0;", 1);
        due.stops("ports 2;", "slot;".repeat(39) + "cell 0 2;", 39);
    }

    @Says(where = "Term 2", words = "else how many there are")
    @Broken(in = "int follow", from = "return most;", to = "return Math.min(n, DEEDS_MOST);")
    @Broken(in = "public int stop", from = "DEEDS_MOST", to = "DEEDS_MOST - 1")
    static void stopIsHowManyThereAre(Due due) {
        due.stops("ports 2;", "", 0);
        due.stops("ports 2;", "cell 0 0;slot;cell 0 0;", 3);
        due.stops("ports 2;", "slot;".repeat(40), 40);
    }

    @Says(where = "Term 2", words = "A STATE is behind the first n DEEDS, n up to STOP")
    @Broken(in = "boolean reaches", from = "run.follow(told, traffic, n) == n", to = "run.follow(told, traffic, n) >= n - 1")
    @Broken(in = "boolean reaches", from = "n < 0", to = "n < -1")
    @Broken(in = "boolean reaches", from = "n < 0", to = "n <= 0")
    @Broken(in = "boolean reaches", from = "n > DEEDS_MOST", to = "n >= DEEDS_MOST")
    static void statesAreUpToStop(Due due) {
        due.fresh("ports 2;", "slot;slot;cell 2 0;slot;");
        due.state(-1, 0, -2);
        due.state(0, 0, 0);
        due.state(1, 0, 1);
        due.state(2, 0, 2);
        due.state(3, 0, -2);
        due.state(4, 0, -2);
        due.fresh("ports 2;", "slot;slot;");
        due.state(2, 0, 2);
        due.state(3, 0, -2);
        due.fresh("ports 2;", "slot;".repeat(40));
        due.state(40, 0, 40);
        due.state(41, 0, -2);
        due.state(Integer.MAX_VALUE, 0, -2);
        due.state(Integer.MIN_VALUE, 0, -2);
    }
}
