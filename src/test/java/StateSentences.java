/** Promises 8 to 10 and 19; DRAWN of term 4. */
final class StateSentences {
    private static final String TELL = "int tell(int what) {\n            if (what < 10)";
    private static final String BEGIN = "void begin(Told told, int crossbar, int roundsNow";
    private static final String HAS_BAR = "!told.has(CROSSBARS, crossbar)";
    private static final int[] WRONG = {2, -1, -2, Integer.MAX_VALUE, Integer.MIN_VALUE};

    private StateSentences() {
    }

    @Says(where = "Promise 8", words = "NONE: there is none such (of either)")
    @Broken(in = "public int stop", from = ": NONE", to = ": NOT_THERE")
    @Broken(in = "public int stop(", from = "begins(crossbar, traffic)", to = "begins(crossbar == 1 ? 0 : crossbar, traffic)")
    @Broken(in = "public int stop(", from = "begins(crossbar, traffic)", to = "begins(Math.max(crossbar, 0), traffic)")
    @Broken(in = "public int stop(", from = "begins(crossbar, traffic)", to = "begins(crossbar, traffic == 1 ? 0 : traffic)")
    @Broken(in = "public int stop(", from = "begins(crossbar, traffic)", to = "begins(crossbar, Math.max(traffic, 0))")
    static void noStopOfNone(Due due) {
        due.fresh("stop");
        due.same("of neither", due.house.stop(0, 0), -1);
        due.tell(0, -1, "ports 2;");
        due.same("of no traffic", due.house.stop(0, 0), -1);
        due.tell(1, -1, "slot;");
        due.same("of both", due.house.stop(0, 0), 1);
        due.same("crossbar 1 of one", due.house.stop(1, 0), -1);
        due.same("traffic 1 of one", due.house.stop(0, 1), -1);
        for (int wrong : WRONG) {
            due.same("crossbar " + wrong, due.house.stop(wrong, 0), -1);
            due.same("traffic " + wrong, due.house.stop(0, wrong), -1);
        }
        due.fresh("stop");
        due.tell(1, -1, "slot;");
        due.same("of no crossbar", due.house.stop(0, 0), -1);
    }

    @Says(where = "Promise 9", words = "1: how many CELLS and FANS came, 2: LOST, 3: CELLS that went, 4: FANS that went, 5: how many GATES were SHUT in all")
    @Broken(in = "int tellSum", from = "return came.size;", to = "return came.size - lost;")
    @Broken(in = "int tellSum", from = "return cellsWent;", to = "return cellsWent + fansWent;")
    @Broken(in = "int tellSum", from = "return fansWent;", to = "return cellsWent;")
    @Broken(in = "int tellSum", from = "return shut;", to = "return Integer.bitCount(shut);")
    static void sumsOfAState(Due due) {
        due.fresh("ports 2;depth 1;", "burst 0 3;fan 1 1;slot;burst 0 3;idle 2;");
        due.state(2, 0, 0, 1, 3, 2, 0, 3, 0, 4, 0, 5, 2);
        due.state(3, 0, 1, 1, 3, 2, 0, 3, 1, 4, 1, 5, 2);
        due.state(4, 0, 1, 1, 4, 2, 1, 3, 1, 4, 1, 5, 3);
        due.state(5, 0, 3, 1, 4, 2, 1, 3, 2, 4, 1, 5, 3);
    }

    @Says(where = "Promise 8", words = "STOP")
    @Broken(in = "public int stop", from = "run.follow(told, traffic, DEEDS_MOST)", to = "told.lineCount(TRAFFICS, traffic)")
    @Broken(in = "public int stop", from = "run.follow(told, traffic, DEEDS_MOST)", to = "run.follow(told, 0, DEEDS_MOST)")
    static void stopIsOfThatTraffic(Due due) {
        due.fresh("ports 2;", "cell 0 0;cell 0 0;");
        due.tell(1, -1, "slot;slot;cell 1 3;");
        due.tell(0, -1, "ports 4;");
        due.same("stop(0, 0)", due.house.stop(0, 0), 1);
        due.same("stop(0, 1)", due.house.stop(0, 1), 2);
        due.same("stop(1, 0)", due.house.stop(1, 0), 1);
        due.same("stop(1, 1)", due.house.stop(1, 1), 3);
    }

    @Says(where = "Promise 9", words = "Of a STATE, what 0: how many SLOTS went by")
    @Broken(in = "int tellSum", from = "return past.slots;", to = "return past.slots - 1;")
    static void slotsOfAState(Due due) {
        due.fresh("ports 2;", "cell 0 0;slot;idle 9;cell 0 0;");
        due.state(0, 0, 0);
        due.state(1, 0, 0);
        due.state(2, 0, 1);
        due.state(3, 0, 10);
        due.state(4, 0, 10);
    }

    @Says(where = "Promise 9", words = "10 + i, 20 + o: ACCEPT, GRANT, 30 + i: FANS in its queue")
    @Broken(in = TELL, from = "case 1: return matcher.accept[at];", to = "case 1: return matcher.grant[at];")
    @Broken(in = TELL, from = "case 2: return matcher.grant[at];", to = "case 2: return matcher.accept[at];")
    @Broken(in = TELL, from = "case 3: return fansIn[at];", to = "case 3: return Math.min(1, fansIn[at]);")
    static void pointersAndFansOfAState(Due due) {
        // GRANT of OUTPUT 2 is behind 0, ACCEPT of INPUT 0 behind 2
        due.fresh("ports 4;", "cell 0 2;slot;fan 0 1;fan 3 1;slot;fan 3 2;");
        due.state(2, 10, 3, 11, 0, 12, 0, 20, 0, 21, 0, 22, 1);
        due.state(6, 30, 0, 31, 0, 32, 0, 33, 2);
    }

    @Says(where = "Promise 9", words = "100 + 10 i + o: CELLS in a QUEUE")
    @Broken(in = TELL, from = "cellsIn[i * PORTS_MOST + at]", to = "cellsIn[at * PORTS_MOST + i]")
    @Broken(in = TELL, from = "cellsIn[i * PORTS_MOST + at]", to = "Math.min(1, cellsIn[i * PORTS_MOST + at])")
    static void cellsOfAState(Due due) {
        due.fresh("ports 6;", "cell 5 0;fan 0 1;slot;cell 5 0;fan 0 1;slot;burst 5 32;");
        due.state(7, 150, 2, 155, 1, 105, 0, 100, 0);
    }

    @Says(where = "Promise 9", words = "40 + i: LEFT of the HEAD (bits; 0: no FANS)")
    @Broken(in = "void endSending", from = "fansIn[i] == 0 ? 0 :", to = "fansIn[i] == 0 ? 64 :")
    @Broken(in = BEGIN, from = "headLeft[p] = 0;", to = "headLeft[p] = 64;")
    static void withoutFansNothingIsLeft(Due due) {
        due.fresh("ports 2;", "cell 0 0;fan 1 3;slot;");
        due.state(0, 40, 0, 41, 0);
        due.state(2, 40, 0, 41, 3);
        due.state(3, 40, 0, 41, 0);
    }

    @Says(where = "Promise 9", words = "50 + o: SHUT of a GATE (0: never)")
    @Broken(in = BEGIN, from = "shutOf[p] = 0;", to = "shutOf[p] = NONE;")
    static void gateThatWasNeverShutIsZero(Due due) {
        due.fresh("ports 3;", "burst 1 2;cell 0 0;slot;");
        due.state(0, 50, 0, 51, 0, 52, 0);
        due.state(3, 50, 0, 51, 1, 52, 0);
    }

    @Says(where = "Promise 9", words = "60 + o: the INPUT that was MATCHED with it in the last SLOT")
    @Broken(in = "void free()", from = "matched[o] = NONE;", to = "")
    @Broken(in = "private boolean bring", from = "arrived |= 1 << first;", to = "arrived |= 1 << first;\nmatcher.matched[0] = NONE;")
    static void matchedIsOfTheLastSlot(Due due) {
        due.fresh("ports 2;", "cell 1 0;slot;cell 0 1;slot;slot;cell 1 0;idle 2;");
        due.state(0, 60, -1, 61, -1);
        due.state(1, 60, -1, 61, -1);
        due.state(2, 60, 1, 61, -1);
        due.state(3, 60, 1, 61, -1);
        due.state(4, 60, -1, 61, 0);
        due.state(5, 60, -1, 61, -1);
        due.state(7, 60, -1, 61, -1);
    }

    @Says(where = "Promise 9", words = "70 + o: the INPUT the FAN of which took it in the last SLOT (NONE of both)")
    @Broken(in = "void passSlot()", from = "takenBy[o] = NONE;", to = "")
    @Broken(in = BEGIN, from = "takenBy[p] = NONE;", to = "takenBy[p] = 0;")
    @Broken(in = "private boolean bring", from = "arrived |= 1 << first;", to = "arrived |= 1 << first;\ntakenBy[0] = NONE;")
    static void takenIsOfTheLastSlot(Due due) {
        due.fresh("ports 2;", "fan 1 1;slot;cell 0 1;slot;slot;fan 1 3;idle 2;");
        due.state(0, 70, -1, 71, -1);
        due.state(1, 70, -1, 71, -1);
        due.state(2, 70, 1, 71, -1);
        due.state(3, 70, 1, 71, -1);
        due.state(4, 70, -1, 71, -1);
        due.state(5, 70, -1, 71, -1);
        due.state(7, 70, -1, 71, -1);
    }

    @Says(where = "Promise 9", words = "-2: there is no such STATE")
    @Broken(in = "public int state", from = ": NOT_THERE", to = ": NONE")
    @Broken(in = "public int state(", from = "reaches(crossbar, traffic, n)", to = "reaches(crossbar == 1 ? 0 : crossbar, traffic, n)")
    @Broken(in = "public int state(", from = "reaches(crossbar, traffic, n)", to = "reaches(Math.max(crossbar, 0), traffic, n)")
    @Broken(in = "public int state(", from = "reaches(crossbar, traffic, n)", to = "reaches(crossbar, traffic == 1 ? 0 : traffic, n)")
    @Broken(in = "public int state(", from = "reaches(crossbar, traffic, n)", to = "reaches(crossbar, Math.max(traffic, 0), n)")
    @Broken(in = "public int state(", from = "reaches(crossbar, traffic, n)", to = "reaches(crossbar, traffic, Math.min(n, 2))")
    @Broken(in = "public int state(", from = "reaches(crossbar, traffic, n)", to = "reaches(crossbar, traffic, Math.max(n, 0))")
    static void noSuchState(Due due) {
        due.fresh("ports 2;", "slot;cell 0 0;cell 0 0;");
        due.state(2, 0, 1);
        for (int n : new int[] {3, 4, 40, 41, -1, -2, Integer.MAX_VALUE, Integer.MIN_VALUE}) {
            due.state(n, 0, -2);
        }
        due.same("crossbar 1", due.house.state(1, 0, 0, 0), -2);
        due.same("traffic 1", due.house.state(0, 1, 0, 0), -2);
        for (int wrong : WRONG) {
            due.same("crossbar " + wrong, due.house.state(wrong, 0, 0, 0), -2);
            due.same("traffic " + wrong, due.house.state(0, wrong, 0, 0), -2);
        }
    }

    @Says(where = "Promise 9", words = "-2: there is no such STATE, INPUT, OUTPUT")
    @Broken(in = TELL, from = "if (at >= ports)", to = "if (at > ports)")
    @Broken(in = TELL, from = "if (at >= ports)", to = "if (at >= ports && what / 10 != 1)")
    @Broken(in = TELL, from = "if (at >= ports)", to = "if (at >= ports && what / 10 != 2)")
    @Broken(in = TELL, from = "if (at >= ports)", to = "if (at >= ports && what / 10 != 3)")
    @Broken(in = TELL, from = "if (at >= ports)", to = "if (at >= ports && what / 10 != 4)")
    @Broken(in = TELL, from = "if (at >= ports)", to = "if (at >= ports && what / 10 != 5)")
    @Broken(in = TELL, from = "if (at >= ports)", to = "if (at >= ports && what / 10 != 6)")
    @Broken(in = TELL, from = "if (at >= ports)", to = "if (at >= ports && what / 10 != 7)")
    @Broken(in = TELL, from = "if (at >= ports)", to = "if (at >= ports && what < 100)")
    @Broken(in = TELL, from = "i >= ports ?", to = "i > ports ?")
    static void noSuchInputOrOutputOfAState(Due due) {
        for (int ports = 1; ports <= 6; ports++) {
            due.fresh("ports " + ports + ";", "");
            for (int tens = 10; tens < 80; tens += 10) {
                due.same("a last one", due.house.state(0, 0, 0, tens + ports - 1) != -2, true);
                due.state(0, tens + ports, -2, tens + 9, -2);
            }
            int last = ports - 1;
            due.state(0, 100 + 10 * last + last, 0, 100 + 10 * last + ports, -2, 100 + 10 * ports, -2,
                100 + 10 * ports + last, -2, 100 + ports, -2, 109, -2);
        }
    }

    @Says(where = "Promise 9", words = "or for another what")
    @Broken(in = "int tellSum", from = "default: return NOT_THERE;", to = "default: return 0;")
    @Broken(in = "int tellSum", from = "default: return NOT_THERE;", to = "case -1:\ncase 6: return 0;\ndefault: return NOT_THERE;")
    @Broken(in = TELL, from = "default: return NOT_THERE;", to = "default: return 0;")
    @Broken(in = TELL, from = "default: return NOT_THERE;", to = "case 8: return 0;\ndefault: return NOT_THERE;")
    @Broken(in = TELL, from = "i >= ports ?", to = "i >= ports && i < 10 ?")
    static void noOtherWhatOfAState(Due due) {
        due.fresh("ports 6;", "slot;");
        for (int what : new int[] {6, 7, 8, 9, -1, -2, -10, -60, 80, 81, 85, 90, 95, 99, 160, 165, 200, 210, 1000,
            Integer.MAX_VALUE, Integer.MIN_VALUE}) {
            due.state(1, what, -2);
        }
    }

    @Says(where = "Promise 10", words = "Of the k-th that came, behind all DEEDS up to STOP")
    @Broken(in = "public int cell", from = "DEEDS_MOST", to = "DEEDS_MOST - 1")
    @Broken(in = "int follow", from = "return k;", to = "continue;")
    @Broken(in = "public int cell(", from = "run.follow(told, traffic, DEEDS_MOST);", to = "run.follow(told, traffic, DEEDS_MOST);\nrun.passSlot();")
    static void cellsAreToldBehindAllDeeds(Due due) {
        due.fresh("ports 2;", "slot;".repeat(38) + "cell 0 0;slot;");
        due.cell(0, 0, 1, 0, 38, 38, 0);
        due.fresh("ports 2;", "slot;".repeat(39) + "cell 0 0;");
        due.cell(0, 0, 1, 0, 39, -1, 0);
        due.fresh("ports 2;", "cell 0 0;cell 0 1;slot;cell 1 1;slot;");
        due.cell(0, 0, 1, 0, 0, -1, 0);
        due.cell(1, -2);
    }

    @Says(where = "Promise 10", words = "what 0: the INPUT")
    @Broken(in = "int tell(int k, int what)", from = "case 0: return input[k];", to = "case 0: return input[0];")
    static void inputsOfThoseThatCame(Due due) {
        due.fresh("ports 6;", "cell 5 0;fan 0 1;burst 3 3;");
        due.cell(0, 5);
        due.cell(1, 0);
        due.cell(2, 3);
        due.cell(3, 3);
    }

    @Says(where = "Promise 10", words = "2: 1 if it is a FAN, else 0")
    @Broken(in = "int tell(int k, int what)", from = "case 2: return isFan[k] ? 1 : 0;", to = "case 2: return Integer.bitCount(outputs[k]) > 1 ? 1 : 0;")
    @Broken(in = "int add(int from", from = "isFan[k] = fan;", to = "isFan[k] = fan && !lost;")
    static void fansAreTold(Due due) {
        due.fresh("ports 2;depth 1;", "fan 0 1;fan 1 1;slot;fan 1 2;burst 0 3;");
        int[] fans = {1, 1, 1, 0, 0};
        for (int k = 0; k < fans.length; k++) {
            due.same("cell(0, 0, " + k + ", 2)", due.house.cell(0, 0, k, 2), fans[k]);
        }
    }

    @Says(where = "Promise 10", words = "1: OUTPUTS it came for (bits)")
    @Broken(in = "void sendFan(", from = "headLeft[i] &= ~outputs;", to = "headLeft[i] &= ~outputs;\ncame.outputs[fanRows[i * DEPTH_MOST]] &= ~outputs;")
    @Broken(in = "boolean takeCell", from = "came.add(i, 1 << o,", to = "came.add(i, o,")
    static void outputsAreThoseItCameFor(Due due) {
        due.fresh("ports 3;", "fan 0 1;fan 1 7;cell 2 2;slot;");
        due.cell(0, 0, 1, 1);
        due.cell(1, 1, 7, 1);
        due.cell(2, 2, 4, 0);
    }

    @Says(where = "Promise 10", words = "3: the SLOT in which it could first go")
    @Broken(in = "int add(int from", from = "couldFirst[k] = slot;", to = "couldFirst[k] = lost ? NONE : slot;")
    @Broken(in = "int add(int from", from = "couldFirst[k] = slot;", to = "couldFirst[k] = Math.max(0, slot - 1);")
    static void itCouldFirstGoInTheNextSlot(Due due) {
        due.fresh("ports 2;depth 1;", "cell 0 0;fan 1 1;slot;idle 3;cell 0 0;fan 1 1;slot;cell 0 0;");
        due.cell(0, 0, 1, 0, 0);
        due.cell(1, 1, 1, 1, 0);
        due.cell(2, 0, 1, 0, 4);
        due.cell(3, 1, 1, 1, 4);
        due.cell(4, 0, 1, 0, 5, -1, 1);
    }

    @Says(where = "Promise 10", words = "4: the SLOT in which it went, or was away (NONE: not yet)")
    @Broken(in = "void endSending", from = "came.sendings[head]++;", to = "came.sendings[head]++;\ncame.went[head] = past.slots;")
    @Broken(in = "int add(int from", from = "went[k] = NONE;", to = "went[k] = lost ? slot : NONE;")
    @Broken(in = "int add(int from", from = "went[k] = NONE;", to = "went[k] = 0;")
    static void notYetGoneIsNone(Due due) {
        due.fresh("ports 2;depth 1;", "fan 0 1;fan 1 3;slot;");
        due.cell(0, 0, 1, 1, 0, 0);
        due.cell(1, 1, 3, 1, 0, -1);
        due.fresh("ports 2;depth 1;", "fan 0 1;fan 1 3;slot;fan 1 1;slot;cell 0 0;");
        due.cell(1, 1, 3, 1, 0, 1);
        // LOST
        due.cell(2, 1, 1, 1, 1, -1);
        due.cell(3, 0, 1, 0, 2, -1);
    }

    @Says(where = "Promise 10", words = "5: 1 if it was LOST, else 0")
    @Broken(in = "int add(int from", from = "isLost[k] = lost;", to = "isLost[k] = lost && !fan;")
    @Broken(in = "int add(int from", from = "isLost[k] = lost;", to = "isLost[k] = lost && fan;")
    static void lostOnesAreTold(Due due) {
        due.fresh("ports 2;depth 1;", "fan 0 1;fan 1 3;slot;fan 1 1;slot;cell 0 0;fan 1 1;slot;cell 0 0;");
        int[] lost = {0, 0, 1, 0, 0, 1};
        for (int k = 0; k < lost.length; k++) {
            due.same("cell(0, 0, " + k + ", 5)", due.house.cell(0, 0, k, 5), lost[k]);
        }
    }

    @Says(where = "Promise 10", words = "-2: there is none such (of any)")
    @Broken(in = "int tell(int k, int what)", from = "k >= size", to = "k > size")
    @Broken(in = "int tell(int k, int what)", from = "k < 0", to = "k < -1")
    @Broken(in = "public int cell", from = "return NOT_THERE;", to = "return NONE;")
    @Broken(in = "public int cell(", from = "begins(crossbar, traffic)", to = "begins(crossbar == 1 ? 0 : crossbar, traffic)")
    @Broken(in = "public int cell(", from = "begins(crossbar, traffic)", to = "begins(Math.max(crossbar, 0), traffic)")
    @Broken(in = "public int cell(", from = "if (!begins(", to = "traffic = traffic == 1 ? 0 : traffic;\nif (!begins(")
    @Broken(in = "public int cell(", from = "begins(crossbar, traffic)", to = "begins(crossbar, Math.max(traffic, 0))")
    static void noSuchCell(Due due) {
        due.fresh("ports 2;", "cell 0 0;cell 1 1;");
        for (int k : new int[] {2, 360, 361, -1, -2, Integer.MAX_VALUE, Integer.MIN_VALUE}) {
            due.cell(k, -2);
        }
        due.same("crossbar 1", due.house.cell(1, 0, 0, 0), -2);
        due.same("traffic 1", due.house.cell(0, 1, 0, 0), -2);
        for (int wrong : WRONG) {
            due.same("crossbar " + wrong, due.house.cell(wrong, 0, 0, 0), -2);
            due.same("traffic " + wrong, due.house.cell(0, wrong, 0, 0), -2);
        }
        due.fresh("ports 2;", "");
        due.cell(0, -2);
    }

    @Says(where = "Promise 10", words = "or for another what")
    @Broken(in = "int tell(int k, int what)", from = "default: return NOT_THERE;", to = "default: return NONE;")
    @Broken(in = "int tell(int k, int what)", from = "default: return NOT_THERE;", to = "case -1:\ncase 6: return 0;\ndefault: return NOT_THERE;")
    static void noOtherWhatOfACell(Due due) {
        due.fresh("ports 2;", "cell 0 0;cell 1 1;");
        for (int what : new int[] {6, -1, -2, Integer.MAX_VALUE, Integer.MIN_VALUE}) {
            due.same("what " + what, due.house.cell(0, 0, 1, what), -2);
        }
    }

    private static long x;

    private static int drawBelow(int n) {
        x = (x * 1103515245L + 12345L) & 0xffffffffL;
        return (int) ((x >> 16) % n);
    }

    /** What is drawn, as a TRAFFIC's text of what may be. */
    private static String drawnText(int ports, int seed, int n) {
        StringBuilder text = new StringBuilder();
        x = seed & 0xffffffffL;
        boolean[] came = new boolean[ports];
        for (int k = 0; k < n; k++) {
            int sort = drawBelow(8);
            if (sort > 5) {
                text.append("slot;");
                came = new boolean[ports];
                continue;
            }
            int input = drawBelow(ports);
            int second = sort < 4 ? drawBelow(ports) : 1 + drawBelow((1 << ports) - 1);
            if (!came[input]) {
                came[input] = true;
                text.append(sort < 4 ? "cell " : sort == 4 ? "fan " : "burst ");
                text.append(input).append(' ').append(second).append(';');
            }
        }
        return text.toString();
    }

    private static void drawn(Due due, int ports, int seed, int n) {
        String text = drawnText(ports, seed, n);
        due.fresh("ports " + ports + ";depth 2;pointer 1;", text);
        int deeds = (int) text.chars().filter(c -> c == ';').count();
        for (int what = 0; what < 160; what++) {
            due.same("drawn(0, " + seed + ", " + n + ", " + what + ")", due.house.drawn(0, seed, n, what),
                due.house.state(0, 0, deeds, what));
        }
    }

    @Says(where = "Term 4", words = "x becomes x * 1103515245 + 12345 (of 32 bits)")
    @Broken(from = "drawX = drawX * 1103515245 + 12345;", to = "drawX = (int) ((drawX * 1103515245L + 12345L) % 4294967295L);")
    @Broken(from = "drawX = drawX * 1103515245 + 12345;", to = "drawX = drawX * 1103515245 + 12345 & Integer.MAX_VALUE;")
    static void drawsWrapAroundAt32Bits(Due due) {
        for (int seed : new int[] {0, 1, -1, 7, 1000003, Integer.MAX_VALUE, Integer.MIN_VALUE}) {
            drawn(due, 3, seed, 30);
        }
    }

    @Says(where = "Term 4", words = "it is x shifted right by 16 without sign, remainder by n")
    @Broken(from = "(drawX >>> 16) % n", to = "Math.abs(drawX >> 16) % n")
    @Broken(from = "(drawX >>> 16) % n", to = "(drawX >>> 16 & 32767) % n")
    @Broken(from = "(drawX >>> 16) % n", to = "(drawX >>> 15) % n")
    static void drawsAreShiftedWithoutSign(Due due) {
        for (int seed = -3; seed < 4; seed++) {
            drawn(due, 5, seed, 30);
        }
    }

    @Says(where = "Term 4", words = "n times, 0 to 60")
    @Broken(from = "DRAWS_MOST = 60", to = "DRAWS_MOST = 59")
    @Broken(from = "DRAWS_MOST = 60", to = "DRAWS_MOST = 61")
    @Broken(in = "public int drawn", from = "n < 0", to = "n < -1")
    @Broken(in = "public int drawn", from = "n < 0", to = "n <= 0")
    @Broken(in = "void draw(int seed", from = "k < n", to = "k < n - 1")
    static void drawsAreZeroToSixty(Due due) {
        drawn(due, 2, 5, 0);
        drawn(due, 1, 5, 1);
        drawn(due, 1, 5, 60);
        due.same("n 60", due.house.drawn(0, 5, 60, 0) > 0, true);
        for (int n : new int[] {61, -1, -2, Integer.MAX_VALUE, Integer.MIN_VALUE}) {
            due.same("n " + n, due.house.drawn(0, 5, n, 0), -2);
        }
    }

    @Says(where = "Term 4", words = "a number below 8: 0 to 3: cell, an INPUT, an OUTPUT, both below PORTS; 4: fan, 5: burst")
    @Broken(in = "void draw(int seed", from = "sort < 4", to = "sort < 3")
    @Broken(in = "void draw(int seed", from = "sort < 4", to = "sort < 5")
    @Broken(in = "void draw(int seed", from = "sort == 4 ? DEED_FAN : DEED_BURST", to = "sort == 5 ? DEED_FAN : DEED_BURST")
    @Broken(in = "void draw(int seed", from = "bring(DEED_CELL, i, drawBelow(ports))", to = "bring(DEED_CELL, drawBelow(ports), i)")
    @Broken(in = "void draw(int seed", from = "drawBelow(8)", to = "drawBelow(7)")
    static void sortsOfDrawsHaveTheirBounds(Due due) {
        for (int seed = 10; seed < 20; seed++) {
            drawn(due, 4, seed, 30);
        }
    }

    @Says(where = "Term 4", words = "an INPUT, below PORTS, OUTPUTS: 1 and a number below all sets but the empty one")
    @Broken(in = "void draw(int seed", from = "1 + drawBelow((1 << ports) - 1)", to = "drawBelow(1 << ports)")
    @Broken(in = "void draw(int seed", from = "1 + drawBelow((1 << ports) - 1)", to = "1 + drawBelow((1 << ports) - 2)")
    @Broken(in = "int drawBelow", from = "drawX = drawX", to = "if (n == 1) {\nreturn 0;\n}\ndrawX = drawX")
    static void setsOfDrawsAreNeverEmpty(Due due) {
        for (int seed = 20; seed < 30; seed++) {
            drawn(due, 2, seed, 30);
            // of one PORT there is one set, which is drawn all the same
            drawn(due, 1, seed, 40);
        }
    }

    @Says(where = "Term 4", words = "6, 7: slot; each, if it may")
    @Broken(in = "void draw(int seed", from = "sort >= 6", to = "sort >= 7")
    @Broken(in = "void draw(int seed", from = "bring(DEED_CELL, i, drawBelow(ports));", to = "if (!bring(DEED_CELL, i, drawBelow(ports))) {\nreturn;\n}")
    @Broken(in = "void draw(int seed", from = "int i = drawBelow(ports);", to = "int i = drawBelow(ports);\nif (holds(arrived, i)) {\ncontinue;\n}")
    static void whatMayNotBeIsPassedOver(Due due) {
        for (int seed = 30; seed < 40; seed++) {
            drawn(due, 2, seed, 40);
        }
    }

    @Says(where = "Promise 19", words = "DRAWN, n times, what as state()")
    @Broken(in = "public int drawn", from = "return run.tell(what);", to = "return what > 99 ? NOT_THERE : run.tell(what);")
    @Broken(in = "public int drawn", from = "run.begin(told, crossbar);", to = "")
    static void drawnIsToldAsAState(Due due) {
        drawn(due, 6, 40, 30);
        drawn(due, 6, 41, 30);
    }

    @Says(where = "Promise 19", words = "-2: there is none such, another n, or for another what")
    @Broken(in = "public int drawn", from = HAS_BAR, to = "crossbar < 0 || crossbar >= TEXTS_MOST")
    @Broken(in = "public int drawn", from = HAS_BAR, to = "crossbar >= told.counts[0]")
    @Broken(in = "public int drawn", from = "return NOT_THERE;", to = "return NONE;")
    @Broken(in = "public int drawn(", from = "return run.tell(what);", to = "return run.tell(what == 13 ? 12 : what);")
    static void nothingIsDrawnForNone(Due due) {
        due.fresh("drawn");
        due.same("of none", due.house.drawn(0, 1, 1, 0), -2);
        due.tell(0, -1, "ports 3;");
        due.same("crossbar 1 of one", due.house.drawn(1, 1, 1, 0), -2);
        for (int wrong : WRONG) {
            due.same("crossbar " + wrong, due.house.drawn(wrong, 1, 1, 0), -2);
        }
        for (int what : new int[] {6, 13, 23, 33, 43, 53, 63, 73, 80, 103, 130, -1, -2, Integer.MAX_VALUE, Integer.MIN_VALUE}) {
            due.same("what " + what, due.house.drawn(0, 1, 1, what), -2);
        }
        for (int n : new int[] {61, -1}) {
            due.same("n " + n, due.house.drawn(0, 1, n, 0), -2);
        }
    }
}
