/** SHADOW and MIMIC of term 3; promise 14. */
final class ShadowSentences {
    private static final int[] WRONG = {2, -1, -2, Integer.MAX_VALUE, Integer.MIN_VALUE};

    private ShadowSentences() {
    }

    @Says(where = "Term 3", words = "SHADOW of a TRAFFIC: just what cell tells")
    @Broken(in = "void take(Told", from = "kind == DEED_CELL", to = "kind == DEED_CELL || kind == DEED_FAN")
    @Broken(in = "void take(Told", from = "kind == DEED_CELL", to = "kind == DEED_CELL || kind == DEED_BURST")
    static void shadowHasWhatCellTells(Due due) {
        due.fresh("ports 2;", "fan 0 1;burst 1 1;slot;cell 1 0;slot;");
        due.mimic(-1, 1, 0, 0);
        due.mimic(0, 1, 1, 1);
        due.mimic(1, -1, -1, -1);
    }

    @Says(where = "Term 3", words = "(each comes, whatever DEPTH)")
    @Broken(in = "void take(Told", from = "kind == DEED_CELL", to = "kind == DEED_CELL && size < 2 + told.bar(0, BAR_DEPTH)")
    static void shadowHasLostOnes(Due due) {
        due.fresh("ports 2;depth 1;", "cell 0 0;cell 1 0;slot;cell 0 0;cell 1 0;slot;");
        due.cell(3, 1, 1, 0, 1, -1, 1);
        due.mimic(-1, 4, 0, 0);
        due.mimic(3, 3, 3, 3);
    }

    @Says(where = "Term 3", words = "up to STOP")
    @Broken(in = "void take(Told", from = "k < stop", to = "k < told.lineCount(TRAFFICS, traffic)")
    @Broken(in = "void take(Told", from = "k < stop", to = "k < stop - 1")
    static void shadowEndsAtStop(Due due) {
        due.fresh("ports 2;", "cell 0 0;cell 1 1;cell 0 1;slot;cell 0 0;");
        due.mimic(-1, 2, 0, 0);
        due.mimic(1, 0, 0, 0);
        due.mimic(2, -1, -1, -1);
    }

    @Says(where = "Term 3", words = "in the SLOT that goes by next")
    @Broken(in = "void take(Told", from = "comes[size] = slot;", to = "comes[size] = slot + 1;")
    @Broken(in = "void take(Told", from = "slot += Run.slotsOf(kind, told.line(TRAFFICS, traffic, k, 1));", to = "slot += kind < DEED_CELL ? 1 : 0;")
    static void shadowsCellsComeInTheNextSlot(Due due) {
        due.fresh("ports 2;", "cell 0 0;slot;cell 0 1;idle 9;cell 0 0;");
        due.mimic(0, 0, 0, 0);
        due.mimic(1, 1, 1, 1);
        due.mimic(2, 10, 10, 10);
        due.fresh("ports 2;", "idle 9;".repeat(39) + "cell 1 1;");
        due.mimic(0, 351, 351, 351);
    }

    @Says(where = "Term 3", words = "behind the last one further SLOTS go by")
    @Broken(in = "void passAll", from = "slot < SLOTS_MOST + FURTHER_SLOTS", to = "size > 0 && slot <= comes[size - 1]")
    @Broken(in = "void setNextIdeal", from = "ideal[first] = slot;", to = "ideal[first] = Math.min(slot, comes[size - 1]);")
    static void furtherSlotsGoBy(Due due) {
        due.fresh("ports 6;", "cell 0 0;cell 1 0;cell 2 0;cell 3 0;cell 4 0;cell 5 0;");
        for (int k = 0; k < 6; k++) {
            due.mimic(k, k, k, k);
        }
    }

    @Says(where = "Term 3", words = "each OUTPUT sends the first of all that came for it and were not sent")
    @Broken(in = "void setNextIdeal", from = "&& output[k] == output[first]", to = "")
    @Broken(in = "void setNextIdeal", from = "int slot = comes[first];", to = "int slot = 0;")
    static void eachOutputOfTheShadowSendsOne(Due due) {
        due.fresh("ports 2;", "cell 0 0;cell 1 1;idle 5;cell 0 0;cell 1 0;");
        due.mimic(0, 0, 0, 0);
        due.mimic(1, 0, 0, 0);
        due.mimic(2, 5, 5, 5);
        due.mimic(3, 6, 6, 6);
    }

    @Says(where = "Term 3", words = "those of an earlier SLOT, of one SLOT those of a lesser INPUT first")
    @Broken(in = "boolean comesBefore", from = "input[a] < input[b]", to = "a < b")
    @Broken(in = "boolean comesBefore", from = "return comes[a] != comes[b] ? comes[a] < comes[b] : input[a] < input[b];", to = "return input[a] < input[b];")
    static void lesserInputOfOneSlotIsFirst(Due due) {
        due.fresh("ports 3;", "cell 2 0;cell 1 0;slot;cell 0 0;");
        due.mimic(0, 1);
        due.mimic(1, 0);
        due.mimic(2, 2);
    }

    @Says(where = "Term 3", words = "MIMIC by a SPEED, 1 or 2")
    @Broken(in = "void passAll", from = "if (speed == 2)", to = "if (speed == 1)")
    @Broken(in = "void passAll", from = "if (speed == 2)", to = "if (speed == 3)")
    @Broken(in = "void passAll", from = "if (speed == 2)", to = "if (speed > 0)")
    static void twiceAsQuickIsNotLate(Due due) {
        // SPEED 1: in SLOT 1 the new CELL of 1 goes before the one for OUTPUT 0
        due.fresh("ports 2;", "cell 1 0;cell 0 0;slot;cell 1 1;");
        due.mimic(0, 1, 2, 1);
        due.mimic(1, 0, 0, 0);
        due.mimic(2, 1, 1, 1);
        due.mimic(-1, 3, 1, 0);
    }

    @Says(where = "Term 3", words = "each is put into its INPUT's row behind as many as there are CELLS at its OUTPUT of earlier IDEAL")
    @Broken(in = "void putInRow", from = "int at = Math.min(ahead, rowSize[i]);", to = "int at = rowSize[i];")
    @Broken(in = "void putInRow", from = "&& output[k] == output[cell] ", to = "")
    static void newOnesStandBehindThoseAtTheOutput(Due due) {
        due.fresh("ports 2;", "cell 1 0;cell 0 0;slot;cell 1 1;");
        due.mimic(0, 1, 2, 1);
        due.mimic(2, 1, 1, 1);
        // OUTPUT 2 has a CELL of an earlier IDEAL when the CELL of 3 for OUTPUT 0 comes, which stands first all the same
        due.fresh("ports 4;", "cell 0 2;cell 1 2;cell 2 2;cell 3 2;slot;cell 3 0;cell 1 0;slot;cell 3 1;");
        due.same("ideal", due.house.mimic(0, 0, 4, 0), 2);
        due.same("by SPEED 2", due.house.mimic(0, 0, 4, 2), 2);
        due.same("late by SPEED 2", due.house.mimic(0, 0, -1, 2), 0);
    }

    @Says(where = "Term 3", words = "each is put into its INPUT's row behind as many as there are CELLS at its OUTPUT of earlier IDEAL")
    @Broken(in = "void putInRow", from = "k > from + at", to = "k > from - at")
    @Broken(in = "void putInRow", from = "rows[from + at] = cell;", to = "rows[from - at] = cell;")
    static void newOneStandsBehindAnotherOfTheFirstRow(Due due) {
        // by SPEED 2 in SLOT 2 OUTPUT 0 has the CELLS of 3 and 4, and the row of 0 has one
        due.fresh("ports 6;", "cell 1 0;cell 2 0;cell 3 0;cell 4 0;cell 5 0;slot;cell 0 0;slot;cell 0 0;");
        for (int k = 0; k < 7; k++) {
            due.mimic(k, k, k, k);
        }
    }

    @Says(where = "Term 3", words = "at most at the end")
    @Broken(in = "void putInRow", from = "int at = Math.min(ahead, rowSize[i]);", to = "int at = ahead > rowSize[i] ? -1 - from : ahead;")
    static void rowsEndIsTheLastPlace(Due due) {
        // by SPEED 2 in SLOT 1 OUTPUT 0 has a CELL, and the row of 2 has none
        due.fresh("ports 3;", "cell 0 0;cell 1 0;slot;cell 2 0;");
        due.mimic(0, 0, 0, 0);
        due.mimic(1, 1, 1, 1);
        due.mimic(2, 2, 2, 2);
    }

    @Says(where = "Term 3", words = "STABLE MATCH: each OUTPUT asks, by CELLS for it that are in rows, by IDEAL, INPUT after INPUT, till one keeps it")
    @Broken(in = "void matchStable", from = "n <= size && goesOn", to = "n < 1 && goesOn")
    @Broken(in = "void matchStable", from = "if (!isKept[o] && askNext(o))", to = "if (!isKept[o] && asked[o] == NONE && askNext(o))")
    static void refusedOutputAsksTheNextInput(Due due) {
        refusedAsksNext(due);
    }

    /**
     * By SPEED 1 in SLOT 1: OUTPUT 0 asks 1, which gives it up for its new CELL, and then 2, the CELL of which goes
     * before its IDEAL.
     */
    private static void refusedAsksNext(Due due) {
        due.fresh("ports 3;", "cell 0 0;cell 1 0;cell 2 0;slot;cell 1 1;");
        due.mimic(0, 0, 0, 0);
        due.mimic(1, 1, 2, 1);
        due.mimic(2, 2, 1, 2);
        due.mimic(3, 1, 1, 1);
    }

    @Says(where = "Term 3", words = "by CELLS for it that are in rows, by IDEAL")
    @Broken(in = "int leastIdeal", from = "ideal[k] < ideal[least]", to = "standing == AT_OUTPUT && ideal[k] < ideal[least]")
    static void outputAsksByIdeal(Due due) {
        due.fresh("ports 3;", "cell 2 0;cell 1 0;cell 0 0;");
        due.mimic(0, 2, 2, 2);
        due.mimic(1, 1, 1, 1);
        due.mimic(2, 0, 0, 0);
    }

    @Says(where = "Term 3", words = "an INPUT keeps of those that ask the one whose CELL is first in its row, and gives up what it kept")
    @Broken(in = "boolean askNext", from = "kept[i] == NONE || isAhead(i, cell, kept[i])", to = "kept[i] == NONE")
    @Broken(in = "boolean askNext", from = "kept[i] == NONE || isAhead(i, cell, kept[i])", to = "kept[i] == NONE || isAhead(i, kept[i], cell)")
    @Broken(in = "boolean askNext", from = "isKept[output[kept[i]]] = false;", to = "")
    @Broken(in = "void putInRow", from = "rows[k] = rows[k - 1];", to = "")
    static void firstInTheRowIsKept(Due due) {
        refusedAsksNext(due);
        // here OUTPUT 0 asks behind OUTPUT 1: what 1 keeps is first in its row, and stays
        due.fresh("ports 3;", "cell 0 1;cell 1 1;cell 2 1;slot;cell 1 0;");
        due.mimic(1, 1, 2, 1);
        due.mimic(2, 2, 1, 2);
        due.mimic(3, 1, 1, 1);
        // by SPEED 1 in SLOT 2 the row of 3 is 7, 4, 0: OUTPUT 0 asks it by 4, OUTPUT 1 by 0
        due.fresh("ports 4;", "cell 3 1;cell 0 0;cell 1 1;cell 2 1;slot;cell 3 0;cell 0 0;slot;cell 1 0;cell 3 0;");
        due.mimic(0, 2, 3, 2);
        due.mimic(4, 2, 2, 2);
        due.mimic(6, 3, 3, 3);
        due.mimic(7, 4, 4, 4);
    }

    @Says(where = "Term 3", words = "each OUTPUT sends the CELL at it of least IDEAL")
    @Broken(in = "int leastIdeal", from = "ideal[k] < ideal[least]", to = "(standing == AT_OUTPUT) == (ideal[k] > ideal[least])")
    static void leastIdealIsSentFirst(Due due) {
        // by SPEED 2 OUTPUT 0 has two CELLS in SLOT 1
        due.fresh("ports 3;", "cell 0 0;cell 1 0;cell 2 0;slot;cell 1 1;");
        due.mimic(1, 1, 2, 1);
        due.mimic(2, 2, 1, 2);
    }

    @Says(where = "Term 3", words = "by SPEED 2 a STABLE MATCH more")
    @Broken(in = "void passAll", from = "if (speed == 2) {\n                    matchStable();\n                }", to = "")
    static void twoMatchesBySpeedTwo(Due due) {
        // by SPEED 2 in SLOT 1 the new CELL of 2 goes by the first match, that for OUTPUT 0 by the second
        due.fresh("ports 3;", "cell 0 0;cell 1 0;cell 2 0;slot;cell 2 1;slot;cell 2 2;");
        due.mimic(0, 0, 0, 0);
        due.mimic(1, 1, 1, 1);
        due.mimic(2, 2, 3, 2);
        due.mimic(3, 1, 1, 1);
        due.mimic(4, 2, 2, 2);
    }

    @Says(where = "Term 3", words = "in the end what was kept goes to the OUTPUTS")
    @Broken(in = "void matchStable", from = "stands[kept[i]] = AT_OUTPUT;", to = "")
    @Broken(in = "void takeFromRow", from = "rows[k] != cell", to = "rows[k] == cell")
    static void whatWasKeptGoesToTheOutput(Due due) {
        due.fresh("ports 2;", "cell 0 0;cell 1 0;slot;cell 1 1;slot;cell 1 0;cell 0 1;");
        due.mimic(0, 0, 0, 0);
        due.mimic(1, 1, 2, 1);
        due.mimic(2, 1, 1, 1);
        due.mimic(-1, 5, 2, 0);
        // by SPEED 1 the row of 2 is 4, 3, 1 in SLOT 2, when 1 goes; in SLOT 3 its 4 goes before its 3
        due.fresh("ports 3;", "cell 0 0;cell 2 0;cell 1 0;slot;cell 2 0;slot;cell 2 1;cell 0 1;cell 1 0;");
        due.mimic(1, 2, 2, 2);
        due.mimic(3, 3, 4, 3);
        due.mimic(4, 3, 3, 3);
        due.mimic(5, 2, 2, 2);
        due.mimic(6, 4, 3, 4);
    }

    @Says(where = "Term 3", words = "an INPUT keeps of those that ask the one whose CELL is first in its row")
    @Broken(in = "void takeFromRow", from = "rows[to] = rows[k];", to = "")
    static void rowIsAsItWasWithoutWhatWent(Due due) {
        // by SPEED 1 the row of 1 is 6, 4, 3 in SLOT 3, 7, 4, 3 in SLOT 4, the first of which goes; then 4, 3
        due.fresh("ports 5;", "cell 4 0;cell 0 0;cell 3 0;slot;cell 1 0;slot;cell 1 2;cell 0 2;slot;cell 1 1;slot;cell 1 3;");
        int[] ideal = {2, 0, 1, 3, 3, 2, 3, 4};
        int[] once = {2, 0, 1, 6, 5, 2, 3, 4};
        for (int k = 0; k < 8; k++) {
            due.mimic(k, ideal[k], once[k], ideal[k]);
        }
        due.mimic(-1, 8, 2, 0);
    }

    @Says(where = "Term 3", words = "LATE: CELLS sent in a later SLOT than IDEAL")
    @Broken(in = "class Shadow", from = "c < size", to = "c <= size")
    static void lateOnesOfAnotherTrafficDoNotCount(Due due) {
        due.fresh("ports 2;", "cell 1 0;cell 0 0;slot;cell 1 1;");
        due.mimic(-1, 3, 1, 0);
        due.same("late by SPEED 1", due.house.mimic(0, 0, -1, 1), 1);
        due.tell(1, 0, "fan 0 1;slot;");
        due.same("late by SPEED 1 of none", due.house.mimic(0, 0, -1, 1), 0);
    }

    @Says(where = "Term 3", words = "LATE: CELLS sent in a later SLOT than IDEAL")
    @Broken(in = "class Shadow", from = "sentIn[c] > ideal[c]", to = "sentIn[c] != ideal[c]")
    @Broken(in = "class Shadow", from = "sentIn[c] > ideal[c]", to = "sentIn[c] >= ideal[c]")
    @Broken(in = "class Shadow", from = "sentIn[c] > ideal[c]", to = "sentIn[c] > ideal[c] + 1")
    static void onlyLaterOnesAreLate(Due due) {
        // by SPEED 1 one is LATE by 1, one is early
        due.fresh("ports 3;", "cell 0 0;cell 1 0;cell 2 0;slot;cell 1 1;");
        due.mimic(-1, 4, 1, 0);
    }

    @Says(where = "Promise 14", words = "without one (k NONE), what 0: how many there are, 1, 2: how many are LATE by that SPEED")
    @Broken(in = "class Shadow", from = "return k == NONE ? size : ideal[k];", to = "return k == NONE ? Math.max(1, size) : ideal[k];")
    @Broken(in = "class Shadow", from = "passAll(what);", to = "passAll(3 - what);")
    static void withoutCellsNoneAreLate(Due due) {
        due.fresh("ports 2;", "fan 0 3;slot;");
        due.mimic(-1, 0, 0, 0);
        due.fresh("ports 2;", "cell 1 0;cell 0 0;slot;cell 1 1;");
        due.mimic(-1, 3, 1, 0);
    }

    @Says(where = "Promise 14", words = "SHADOW of the k-th that cell tells, what 0: IDEAL, 1, 2: the SLOT by MIMIC of that SPEED")
    @Broken(in = "class Shadow", from = "return k == NONE ? size : ideal[k];", to = "return k == NONE ? size : comes[k];")
    @Broken(in = "class Shadow", from = "return sentIn[k];", to = "return ideal[k];")
    static void shadowsCellsAreToldByTheirNumber(Due due) {
        due.fresh("ports 2;", "fan 0 3;slot;cell 1 0;cell 0 0;slot;cell 1 1;");
        due.mimic(0, 2, 3, 2);
        due.mimic(1, 1, 1, 1);
        due.mimic(2, 2, 2, 2);
    }

    @Says(where = "Promise 14", words = "NONE: there is none such (of any)")
    @Broken(in = "public int mimic", from = "k >= shadow.size", to = "k > shadow.size")
    @Broken(in = "public int mimic", from = "(k < 0 || k >= shadow.size)", to = "k >= shadow.size")
    @Broken(in = "public int mimic", from = "return NONE;", to = "return NOT_THERE;")
    @Broken(in = "public int mimic(", from = "begins(crossbar, traffic)", to = "begins(crossbar == 1 ? 0 : crossbar, traffic)")
    @Broken(in = "public int mimic(", from = "begins(crossbar, traffic)", to = "begins(Math.max(crossbar, 0), traffic)")
    @Broken(in = "public int mimic(", from = "begins(crossbar, traffic)", to = "begins(crossbar, traffic == 1 ? 0 : traffic)")
    @Broken(in = "public int mimic(", from = "begins(crossbar, traffic)", to = "begins(crossbar, Math.max(traffic, 0))")
    static void noSuchCellOfTheShadow(Due due) {
        due.fresh("ports 2;", "cell 0 0;cell 1 1;");
        for (int k : new int[] {2, 40, -2, -3, Integer.MAX_VALUE, Integer.MIN_VALUE}) {
            due.mimic(k, -1, -1, -1);
        }
        due.same("crossbar 1", due.house.mimic(1, 0, -1, 0), -1);
        due.same("traffic 1", due.house.mimic(0, 1, -1, 0), -1);
        for (int wrong : WRONG) {
            due.same("crossbar " + wrong, due.house.mimic(wrong, 0, 0, 0), -1);
            due.same("traffic " + wrong, due.house.mimic(0, wrong, 0, 0), -1);
        }
        due.fresh("ports 2;", "");
        due.mimic(0, -1, -1, -1);
    }

    @Says(where = "Promise 14", words = "or for another what")
    @Broken(in = "public int mimic", from = "what > 2", to = "what > 3")
    @Broken(in = "public int mimic", from = "what < 0", to = "what < -1")
    static void noOtherWhatOfTheShadow(Due due) {
        due.fresh("ports 2;", "cell 0 0;cell 1 1;");
        for (int what : new int[] {3, 4, -1, -2, Integer.MAX_VALUE, Integer.MIN_VALUE}) {
            due.same("what " + what, due.house.mimic(0, 0, 1, what), -1);
            due.same("how many, what " + what, due.house.mimic(0, 0, -1, what), -1);
        }
    }
}
