/** Term 5: WAIT and all that is told behind all DEEDS; promises 15 and 16. */
final class AfterSentences {
    private static final int[] WRONG = {2, -1, -2, Integer.MAX_VALUE, Integer.MIN_VALUE};
    private static final String AFTER = "int tell(Run run, int what) {\n            switch (what) {\n                case 0: return longestWait";

    private AfterSentences() {
    }

    @Says(where = "Term 5", words = "Behind all DEEDS up to STOP")
    @Broken(in = "public int after", from = "DEEDS_MOST", to = "DEEDS_MOST - 1")
    @Broken(in = "int follow", from = "return k;", to = "continue;")
    @Broken(in = "public int after(", from = "run.follow(told, traffic, DEEDS_MOST);", to = "run.follow(told, traffic, DEEDS_MOST);\nrun.passSlot();")
    static void afterIsBehindAllDeedsUpToStop(Due due) {
        due.fresh("ports 2;", "slot;".repeat(40));
        due.after(4, 40);
        due.fresh("ports 2;", "slot;cell 2 0;slot;");
        due.after(4, 1);
    }

    @Says(where = "Term 5", words = "WAIT of a CELL that went: the SLOT in which it did less the one in which it could first")
    @Broken(in = "int waitOf", from = "went[k] - couldFirst[k]", to = "went[k]")
    @Broken(in = "int waitOf", from = "went[k] - couldFirst[k]", to = "went[k] - couldFirst[k] + 1")
    static void waitIsFromTheFirstSlotItCouldGo(Due due) {
        due.fresh("ports 2;", "idle 3;cell 0 0;slot;");
        due.after(0, 0, 1, 0, 2, 0);
        // the FAN of 1 takes OUTPUT 0 twice
        due.fresh("ports 2;", "idle 3;cell 0 0;fan 1 1;slot;fan 1 1;slot;slot;");
        due.after(0, 2, 1, 2, 2, 0);
    }

    @Says(where = "Term 5", words = "(the next one when it came, LOST or not)")
    @Broken(in = "boolean takeCell", from = "past.slots, isLost)", to = "isLost ? NONE : past.slots, isLost)")
    @Broken(in = "void takeFan", from = "past.slots, isLost)", to = "isLost ? NONE : past.slots, isLost)")
    static void lostOnesCouldFirstGoInTheNextSlot(Due due) {
        due.fresh("ports 2;depth 1;", "cell 0 0;fan 1 1;slot;cell 0 0;fan 1 1;idle 3;");
        due.cell(2, 0, 1, 0, 1, -1, 1);
        due.fresh("ports 2;depth 1;", "fan 0 1;fan 1 1;slot;fan 1 1;idle 3;");
        due.cell(2, 1, 1, 1, 1, -1, 1);
    }

    @Says(where = "Term 5", words = "WAIT of a CELL that went")
    @Broken(in = "int sumOfWaits", from = "if (came.went[k] != NONE)", to = "if (came.went[k] != NONE || came.isLost[k])")
    @Broken(in = "int worst(Came", from = "came.went[k] != NONE && (", to = "came.went[k] >= NONE && (")
    @Broken(in = "int sumOfWaits", from = "if (came.went[k] != NONE)", to = "if (came.went[k] >= NONE)")
    static void thoseThatDidNotGoHaveNoWait(Due due) {
        due.fresh("ports 2;depth 1;", "cell 0 0;fan 1 1;slot;cell 0 0;fan 1 1;slot;");
        // the CELL 0 is still there, the CELL 2 was LOST
        due.after(0, 0, 1, 0, 2, 1);
        due.fresh("ports 2;depth 1;", "cell 0 0;fan 1 1;slot;cell 0 0;");
        due.after(0, 0, 1, 0, 2, 1);
        due.fresh("ports 2;", "cell 0 0;");
        due.after(0, 0, 1, 0, 2, -1);
    }

    @Says(where = "Term 5", words = "of a FAN by the SLOT in which it was away")
    @Broken(in = "void endSending", from = "if (headLeft[i] == 0) {\n                came.went[head] = past.slots;",
        to = "if (came.went[head] == NONE) {\ncame.went[head] = past.slots;\n}\nif (headLeft[i] == 0) {")
    static void fanWaitsTillItIsAway(Due due) {
        due.fresh("ports 2;", "fan 0 1;fan 1 3;slot;fan 0 1;slot;slot;");
        due.after(0, 2, 1, 2, 2, 1);
        due.fresh("ports 2;", "fan 0 1;fan 1 3;slot;");
        due.after(0, 0, 1, 0, 2, 0);
    }

    @Says(where = "Term 5", words = "LONGEST: the greatest WAIT; SUM of all; WORST: whose it is")
    @Broken(in = "int sumOfWaits", from = "sum += came.waitOf(k);", to = "sum = Math.max(sum, came.waitOf(k));")
    @Broken(in = "int worst(Came", from = "came.waitOf(k) > came.waitOf(worst)", to = "came.waitOf(k) < came.waitOf(worst)")
    @Broken(in = "int worst(Came", from = "came.waitOf(k) > came.waitOf(worst)", to = "came.waitOf(k) > 0 && !came.isFan[k]")
    static void longestSumAndWorst(Due due) {
        // FANS by SLOTS 0, 1, 2: WAITS 0, 1, 2; the CELL of 0 for OUTPUT 1 goes at once
        due.fresh("ports 3;", "fan 0 1;fan 1 1;fan 2 1;slot;cell 0 1;idle 2;");
        due.after(0, 2, 1, 3, 2, 2);
    }

    @Says(where = "Term 5", words = "of several the least number")
    @Broken(in = "int worst(Came", from = "came.waitOf(k) > came.waitOf(worst)", to = "came.waitOf(k) >= came.waitOf(worst)")
    static void leastNumberOfSeveralIsTheWorst(Due due) {
        due.fresh("ports 2;", "cell 0 0;cell 1 1;slot;");
        due.after(0, 0, 2, 0);
        due.fresh("ports 2;", "fan 0 3;cell 1 1;slot;cell 0 0;idle 2;");
        due.after(0, 1, 1, 1, 2, 1);
    }

    @Says(where = "Promise 16", words = "What 0: LONGEST, 1: SUM (0 without any that went), 2: WORST (NONE)")
    @Broken(in = "int longestWait", from = "worst == NONE ? 0 :", to = "worst == NONE ? NONE :")
    @Broken(in = "int sumOfWaits", from = "return sum;", to = "return came.size == 0 ? NONE : sum;")
    @Broken(in = "int worst(Came", from = "return worst;", to = "return Math.max(worst, 0);")
    static void withoutAnyThatWentThereIsNoWait(Due due) {
        due.fresh("ports 2;", "");
        due.after(0, 0, 1, 0, 2, -1);
        due.fresh("ports 2;", "idle 3;cell 0 0;");
        due.after(0, 0, 1, 0, 2, -1);
    }

    @Says(where = "Term 5", words = "SPLITS: how many FANS sent in more than one SLOT")
    @Broken(in = "int splits(Came", from = "came.sendings[k] > 1", to = "came.sendings[k] >= 1")
    @Broken(in = "int splits(Came", from = "came.sendings[k] > 1", to = "came.isFan[k] && Integer.bitCount(came.outputs[k]) > 1")
    @Broken(in = "int splits(Came", from = "came.sendings[k] > 1", to = "came.isFan[k] && came.waitOf(k) > 0")
    @Broken(in = "int splits(Came", from = "came.sendings[k] > 1", to = "came.sendings[k] > 2")
    @Broken(in = "int splits(Came", from = "k < came.size", to = "k <= came.size")
    static void splitFansSentInSeveralSlots(Due due) {
        due.fresh("ports 2;", "fan 0 3;slot;");
        due.after(3, 0);
        // sent at once to all; waits, and is sent in one SLOT; was sent in two
        due.fresh("ports 2;", "fan 0 3;slot;fan 0 1;fan 1 1;slot;slot;");
        due.after(3, 0);
        due.fresh("ports 2;", "fan 0 1;fan 1 3;slot;slot;");
        due.after(3, 1);
        due.fresh("ports 2;", "fan 1 3;fan 0 1;slot;slot;");
        due.after(3, 1);
    }

    @Says(where = "Term 5", words = "(away by now or not)")
    @Broken(in = "int splits(Came", from = "came.sendings[k] > 1", to = "came.sendings[k] > 1 && came.went[k] != NONE")
    @Broken(in = "int splits(Came", from = "came.sendings[k] > 1", to = "came.sendings[k] > (came.went[k] == NONE ? 0 : 1)")
    static void splitFansNeedNotBeAway(Due due) {
        // 2 sends to OUTPUT 2, then to 1; 1 sent to OUTPUT 1 alone
        due.fresh("ports 3;", "fan 0 1;fan 1 3;fan 2 7;slot;fan 0 1;fan 1 1;slot;");
        due.state(7, 41, 1, 42, 1, 31, 2, 32, 1);
        due.after(3, 1);
    }

    @Says(where = "Term 5", words = "IDLE: in how many SLOTS nothing was MATCHED or sent")
    @Broken(in = "int idleSlots", from = "past.reached[s] == 0", to = "past.pairs[s] == 0")
    @Broken(in = "int idleSlots", from = "past.reached[s] == 0", to = "past.reached[s] == 0 && s > 0")
    static void idleSlotsHaveNeither(Due due) {
        due.fresh("ports 2;", "");
        due.after(4, 0);
        due.fresh("ports 2;", "slot;fan 0 1;slot;cell 0 0;slot;slot;");
        due.after(4, 2);
        due.fresh("ports 2;", "idle 9;".repeat(40));
        due.after(4, 360);
    }

    @Says(where = "Term 5", words = "BEST: the SLOT in which most OUTPUTS were taken or MATCHED")
    @Broken(in = "int bestSlot", from = "Integer.bitCount(past.reached[s])", to = "Integer.bitCount(past.senders[s])")
    @Broken(in = "int bestSlot", from = "Integer.bitCount(past.reached[s])", to = "past.reached[s]")
    static void bestSlotCountsOutputs(Due due) {
        due.fresh("ports 3;", "cell 0 2;slot;fan 0 3;slot;cell 0 2;slot;");
        due.after(5, 1);
        due.fresh("ports 3;", "cell 0 2;slot;fan 0 1;cell 1 1;slot;");
        due.after(5, 1);
    }

    @Says(where = "Term 5", words = "of several the first. FLOWS")
    @Broken(in = "int bestSlot", from = "reached > most", to = "reached >= most")
    static void firstOfSeveralIsTheBest(Due due) {
        due.fresh("ports 2;", "slot;cell 0 0;slot;cell 1 1;slot;");
        due.after(5, 1);
        due.fresh("ports 2;", "idle 3;");
        due.after(5, 0);
    }

    @Says(where = "Promise 16", words = "5: BEST (NONE without SLOTS)")
    @Broken(in = "int bestSlot", from = "int best = NONE;", to = "int best = 0;")
    static void withoutSlotsThereIsNoBest(Due due) {
        due.fresh("ports 2;", "");
        due.after(5, -1);
        due.fresh("ports 2;", "cell 0 0;fan 1 1;");
        due.after(5, -1);
    }

    @Says(where = "Term 5", words = "FLOWS: an INPUT and an OUTPUT for which a CELL went: how many")
    @Broken(in = "void gatherFlows", from = "int i = Past.inputOf(run.past.pairs[s], o);", to = "int i = Past.inputOf(run.past.pairs[s], o);\ni = i == NONE && run.cellsIn[o] > 0 ? 0 : i;")
    @Broken(in = "void gatherFlows", from = "flows = 0;", to = "")
    @Broken(in = "void gatherFlows", from = "wentBy[q] = 0;", to = "")
    @Broken(in = "public int flow", from = "DEEDS_MOST", to = "DEEDS_MOST - 1")
    static void flowsAreOfCellsThatWent(Due due) {
        due.fresh("ports 2;", "");
        due.flow(-1, 0);
        // what a FAN takes is none, what waits is none
        due.fresh("ports 2;", "fan 0 3;cell 1 0;slot;cell 0 1;");
        due.flow(-1, 0);
        due.fresh("ports 2;", "slot;".repeat(38) + "cell 0 0;slot;");
        due.flow(-1, 1);
        due.flow(0, 0, 1, 0);
        due.flow(0, 0, 1, 0);
        due.fresh("ports 6;", "burst 0 63;burst 1 63;burst 2 63;burst 3 63;burst 4 63;burst 5 63;idle 9;idle 9;idle 9;");
        due.flow(-1, 36);
        due.flow(-1, 36);
    }

    @Says(where = "Term 5", words = "the k-th by when the first one went, of one SLOT by OUTPUTS: 10 times the INPUT, and the OUTPUT")
    @Broken(in = "void noteCell", from = "order[flows] = 10 * i + o;", to = "order[flows] = 10 * o + i;")
    @Broken(in = "void gatherFlows", from = "for (int o = 0; o < run.ports; o++)", to = "for (int o = run.ports - 1; o >= 0; o--)")
    @Broken(in = "void gatherFlows", from = "for (int s = 0; s < run.past.slots; s++)", to = "for (int s = run.past.slots - 1; s >= 0; s--)")
    static void flowsAreBySlotsThenByOutputs(Due due) {
        due.fresh("ports 3;", "cell 0 2;cell 2 0;slot;cell 0 1;cell 1 0;slot;cell 0 2;slot;");
        due.flow(-1, 4);
        due.flow(0, 20, 1, 0);
        due.flow(1, 2, 2, 0);
        due.flow(2, 10, 1, 0);
        due.flow(3, 1, 1, 0);
    }

    @Says(where = "Term 5", words = "how many CELLS went by it; how many are still in its QUEUE")
    @Broken(in = "int tellFlow", from = "run.cellsIn[queueOf(order[k])]", to = "run.cellsIn[order[k]]")
    @Broken(in = "int tellFlow", from = "wentBy[queueOf(order[k])]", to = "wentBy[k]")
    static void flowsTellWhatWentAndWhatIsThere(Due due) {
        due.fresh("ports 2;", "cell 1 1;slot;cell 1 1;slot;cell 1 1;fan 0 2;slot;cell 1 1;cell 0 0;");
        due.flow(-1, 1);
        due.flow(0, 11, 2, 2);
    }

    @Says(where = "Term 5", words = "FAIR: the FLOW by which fewest went")
    @Broken(in = "int fairest", from = "wentBy[queueOf(order[k])] < wentBy[queueOf(fair)]", to = "wentBy[queueOf(order[k])] > wentBy[queueOf(fair)]")
    static void fairIsTheFlowOfFewest(Due due) {
        due.fresh("ports 2;", "cell 0 0;slot;cell 0 0;cell 1 1;slot;");
        due.after(6, 11);
        due.fresh("ports 2;", "cell 0 0;cell 1 1;slot;cell 1 1;slot;");
        due.after(6, 0);
    }

    @Says(where = "Term 5", words = "of several the first (10 times the INPUT, and the OUTPUT)")
    @Broken(in = "int fairest", from = "wentBy[queueOf(order[k])] < wentBy[queueOf(fair)]", to = "wentBy[queueOf(order[k])] <= wentBy[queueOf(fair)]")
    @Broken(in = "int fairest", from = "fair = order[k];", to = "fair = order[k];\nbreak;")
    static void firstOfSeveralIsFair(Due due) {
        // by OUTPUTS of one SLOT 10 goes before 1
        due.fresh("ports 2;", "cell 0 1;cell 1 0;slot;cell 0 0;slot;");
        due.after(6, 10);
        due.fresh("ports 2;", "cell 1 1;slot;cell 1 1;slot;cell 1 0;slot;cell 0 0;slot;");
        due.after(6, 10);
    }

    @Says(where = "Promise 16", words = "6: FAIR (NONE)")
    @Broken(in = "int fairest", from = "return fair;", to = "return Math.max(fair, 0);")
    static void withoutFlowsNothingIsFair(Due due) {
        due.fresh("ports 2;", "fan 0 3;slot;cell 0 0;");
        due.after(6, -1);
    }

    @Says(where = "Term 5", words = "MEETS: couples of SLOTS in which the same pairs were MATCHED (some, and all of them)")
    @Broken(in = "int meets", from = "if (past.pairs[s] != 0)", to = "if (past.pairs[s] >= 0)")
    @Broken(in = "int meets", from = "past.pairs[t] == past.pairs[s]", to = "(past.pairs[t] & past.pairs[s]) != 0")
    @Broken(in = "int meets", from = "t < past.slots", to = "t <= past.slots")
    @Broken(in = "int meets", from = "past.pairs[t] == past.pairs[s]", to = "past.pairs[t] == past.pairs[s] && t == s + 1")
    @Broken(in = "int meets", from = "past.pairs[t] == past.pairs[s]", to = "past.pairs[t] == past.pairs[s] && past.reached[t] == past.reached[s]")
    static void slotsMeetInAllTheirPairs(Due due) {
        due.fresh("ports 2;", "idle 9;");
        due.after(7, 0);
        due.fresh("ports 2;", "cell 0 0;slot;cell 0 0;cell 1 1;slot;");
        due.after(7, 0);
        due.fresh("ports 2;", "cell 0 1;cell 1 0;slot;idle 2;cell 0 1;cell 1 0;slot;cell 0 1;cell 1 0;slot;cell 0 1;slot;");
        due.after(7, 3);
        // the SLOTS of another TRAFFIC before do not count
        due.fresh("ports 2;", "cell 0 0;slot;cell 0 0;slot;");
        due.after(7, 1);
        due.tell(1, 0, "cell 0 0;slot;");
        due.after(7, 0);
        // what FANS take is no pair
        due.fresh("ports 2;", "cell 0 0;slot;cell 0 0;fan 1 2;slot;fan 0 1;slot;fan 0 1;slot;");
        due.after(7, 1);
    }

    @Says(where = "Term 5", words = "STARVED: INPUTS (bits) that have CELLS or FANS")
    @Broken(in = "boolean hasSomething", from = "run.fansIn[i] > 0", to = "run.fansIn[i] > 9")
    @Broken(in = "boolean hasSomething", from = "run.cellsIn[i * PORTS_MOST + o] > 0", to = "run.cellsIn[i * PORTS_MOST + o] > 9")
    @Broken(in = "int starved(Run", from = "if (hasSomething(run, i))", to = "if (i >= 0)")
    @Broken(in = "boolean hasSomething", from = "o < run.ports", to = "o <= run.ports")
    static void starvedOnesHaveSomething(Due due) {
        due.fresh("ports 4;", "idle 4;cell 3 3;fan 1 1;");
        due.after(8, 10);
        due.fresh("ports 4;", "idle 9;");
        due.after(8, 0);
        due.fresh("ports 6;", "idle 6;cell 5 5;");
        due.after(8, 32);
        due.fresh("ports 6;", "idle 6;cell 1 0;");
        due.after(8, 2);
    }

    @Says(where = "Term 5", words = "and sent nothing in the last n SLOTS, n being PORTS")
    @Broken(in = "int starved(Run", from = "run.past.slots - run.ports", to = "run.past.slots - run.ports + 1")
    @Broken(in = "int starved(Run", from = "run.past.slots - run.ports", to = "run.past.slots - run.ports - 1")
    @Broken(in = "int starved(Run", from = "starved &= ~run.past.senders[s];", to = "starved &= ~run.past.senders[run.past.slots - 1];")
    static void starvedOnesSentNothingInSoManySlots(Due due) {
        // 0 sent in SLOT 0 alone
        due.fresh("ports 3;", "cell 0 0;slot;idle 1;cell 0 0;fan 1 1;slot;");
        due.after(8, 0);
        due.fresh("ports 3;", "cell 0 0;slot;idle 2;cell 0 0;fan 1 1;slot;");
        due.after(8, 1);
    }

    @Says(where = "Term 5", words = "(there being so many)")
    @Broken(in = "int starved(Run", from = "if (first < 0)", to = "if (first < -1)")
    @Broken(in = "int starved(Run", from = "if (first < 0)", to = "if (first <= 0)")
    static void fewerSlotsStarveNone(Due due) {
        due.fresh("ports 3;", "idle 2;cell 0 0;");
        due.after(8, 0);
        due.fresh("ports 3;", "idle 3;cell 0 0;");
        due.after(8, 1);
        due.fresh("ports 3;", "cell 0 0;");
        due.after(8, 0);
    }

    @Says(where = "Term 5", words = "sent nothing")
    @Broken(in = "void note(Matcher", from = "all & ~matcher.freeInputs;", to = "row == 0 ? 0 : all & ~matcher.freeInputs;")
    static void fansAreSentToo(Due due) {
        // 1 sends a part of its FAN in each SLOT, 0 waits for OUTPUT 1
        due.fresh("ports 2;", "fan 1 3;cell 0 1;slot;fan 1 3;slot;fan 1 1;");
        due.after(8, 1);
    }

    @Says(where = "Term 5", words = "TURNS of an OUTPUT: how often the INPUT it was MATCHED with was another one than the one before")
    @Broken(in = "int turns(Past", from = "before != NONE && before != i", to = "before != i")
    @Broken(in = "int turns(Past", from = "if (i != NONE) {\n                    if (before", to = "if (i != NONE || s > 0) {\n                    if (before")
    @Broken(in = "int turns(Past", from = "before != NONE && before != i", to = "before != NONE")
    static void turnsPassOverEmptySlots(Due due) {
        due.fresh("ports 2;", "");
        due.after(10, 0, 11, 0);
        due.fresh("ports 2;", "cell 0 0;slot;idle 2;cell 0 0;slot;");
        due.after(10, 0, 11, 0);
        due.fresh("ports 2;", "cell 0 0;slot;idle 2;cell 1 0;slot;cell 1 0;slot;fan 0 1;slot;cell 0 0;slot;");
        due.after(10, 2, 11, 0);
    }

    @Says(where = "Term 5", words = "SAME: couples of INPUTS the QUEUES of which have just as many CELLS for each OUTPUT")
    @Broken(in = "boolean areAlike", from = "for (int o = 0; o < run.ports; o++)", to = "for (int o = 0; o < run.ports - 1; o++)")
    @Broken(in = "boolean areAlike", from = "return true;", to = "return run.cellsIn[i * PORTS_MOST] + run.cellsIn[i * PORTS_MOST + 1] > 0;")
    @Broken(in = "boolean areAlike", from = "for (int o = 0", to = "if (run.fansIn[i] != run.fansIn[j]) {\nreturn false;\n}\nfor (int o = 0")
    @Broken(in = "int alikeInputs", from = "int j = i + 1;", to = "int j = i;")
    static void sameInputsHaveJustAsMany(Due due) {
        due.fresh("ports 4;", "");
        due.after(9, 6);
        due.fresh("ports 1;", "");
        due.after(9, 0);
        due.fresh("ports 2;", "cell 0 1;");
        due.after(9, 0);
        due.fresh("ports 4;", "cell 0 1;cell 2 1;fan 3 1;");
        due.after(9, 2);
        // as many in all, but for others
        due.fresh("ports 2;", "cell 0 0;cell 1 1;");
        due.after(9, 0);
        due.fresh("ports 3;", "burst 0 3;burst 1 6;burst 2 3;");
        due.after(9, 1);
        due.fresh("ports 6;", "burst 0 52;burst 1 11;burst 2 52;burst 3 11;burst 4 52;");
        due.after(9, 4);
        due.fresh("ports 6;", "");
        due.after(9, 15);
    }

    @Says(where = "Promise 15", words = "FLOWS, what 0: how many (k NONE); of the k-th 0: it, 1: CELLS that went, 2: that are still there")
    @Broken(in = "int tellFlow", from = "case 1: return wentBy[queueOf(order[k])];", to = "case 1: return run.cellsIn[queueOf(order[k])];")
    @Broken(in = "int tellFlow", from = "case 2: return run.cellsIn[queueOf(order[k])];", to = "case 2: return wentBy[queueOf(order[k])];")
    static void flowsAreToldByTheirWhats(Due due) {
        due.fresh("ports 2;", "cell 1 0;slot;cell 1 0;slot;cell 1 0;");
        due.flow(-1, 1);
        due.flow(0, 10, 2, 1);
    }

    @Says(where = "Promise 15", words = "of the k-th 0: it, 1: CELLS that went, 2: that are still there")
    @Broken(in = "int queueOf", from = "flow / 10", to = "flow / 9")
    @Broken(in = "int queueOf", from = "flow % 10", to = "flow % 5")
    static void flowsOfTheLastPortsAreTold(Due due) {
        due.fresh("ports 6;", "cell 5 5;slot;cell 4 5;cell 5 4;slot;cell 5 5;slot;cell 4 5;slot;cell 4 5;slot;"
            + "burst 5 48;cell 4 5;fan 0 48;slot;");
        due.flow(-1, 3);
        due.flow(0, 55, 2, 1);
        due.flow(1, 54, 1, 1);
        due.flow(2, 45, 3, 1);
        due.after(6, 54);
    }

    @Says(where = "Promise 16", words = "3: SPLITS, 4: IDLE")
    @Broken(in = AFTER, from = "case 3: return splits(run.came);", to = "case 3: return idleSlots(run.past);")
    @Broken(in = AFTER, from = "case 4: return idleSlots(run.past);", to = "case 4: return splits(run.came);")
    static void splitsAndIdleAreToldByTheirWhats(Due due) {
        due.fresh("ports 2;", "fan 0 1;fan 1 3;slot;idle 3;");
        due.after(3, 1, 4, 2);
    }

    @Says(where = "Promise 16", words = "7: MEETS, 8: STARVED (bits), 9: SAME, 10 + o: TURNS")
    @Broken(in = AFTER, from = "case 7: return meets(run.past);", to = "case 7: return turns(run.past, 0);")
    @Broken(in = AFTER, from = "case 8: return starved(run);", to = "case 8: return Integer.bitCount(starved(run));")
    @Broken(in = AFTER, from = "case 9: return alikeInputs(run);", to = "case 9: return meets(run.past);")
    @Broken(in = AFTER, from = "turns(run.past, what - 10)", to = "turns(run.past, 0)")
    static void restIsToldByItsWhats(Due due) {
        // OUTPUT 1: 0, 1, 0, 1; OUTPUT 0: 2 twice, in SLOTS 0 and 2; then FANS take it
        due.fresh("ports 3;", "cell 0 1;cell 2 0;slot;cell 1 1;slot;cell 0 1;cell 2 0;slot;cell 1 1;slot;fan 0 7;cell 2 0;slot;fan 0 7;slot;");
        due.after(7, 2, 8, 4, 9, 1, 10, 0, 11, 3, 12, 0);
        due.fresh("ports 3;", "idle 3;cell 2 0;");
        due.after(7, 0, 8, 4, 9, 1);
    }

    @Says(where = "Promise 15", words = "NONE: not so many")
    @Broken(in = "int tellFlow", from = "k >= flows", to = "k > flows")
    @Broken(in = "int tellFlow", from = "k < 0 ||", to = "k < -2 ||")
    static void noSuchFlow(Due due) {
        due.fresh("ports 2;", "cell 0 0;cell 1 1;slot;");
        due.flow(-1, 2);
        due.flow(1, 11, 1, 0);
        for (int k : new int[] {2, 36, -2, -3, Integer.MAX_VALUE, Integer.MIN_VALUE}) {
            due.flow(k, -1, -1, -1);
        }
        due.fresh("ports 6;", "burst 0 63;burst 1 63;burst 2 63;burst 3 63;burst 4 63;burst 5 63;idle 9;idle 9;idle 9;");
        due.flow(36, -1, -1, -1);
    }

    @Says(where = "Promise 15", words = "there is none such (of either)")
    @Broken(in = "public int flow", from = "return NONE;", to = "return NOT_THERE;")
    @Broken(in = "public int flow(", from = "begins(crossbar, traffic)", to = "begins(crossbar == 1 ? 0 : crossbar, traffic)")
    @Broken(in = "public int flow(", from = "begins(crossbar, traffic)", to = "begins(Math.max(crossbar, 0), traffic)")
    @Broken(in = "public int flow(", from = "begins(crossbar, traffic)", to = "begins(crossbar, traffic == 1 ? 0 : traffic)")
    @Broken(in = "public int flow(", from = "begins(crossbar, traffic)", to = "begins(crossbar, Math.max(traffic, 0))")
    static void noFlowsOfNone(Due due) {
        due.fresh("ports 2;", "cell 0 0;slot;");
        due.same("crossbar 1 of one", due.house.flow(1, 0, -1, 0), -1);
        due.same("traffic 1 of one", due.house.flow(0, 1, -1, 0), -1);
        for (int wrong : WRONG) {
            due.same("crossbar " + wrong, due.house.flow(wrong, 0, -1, 0), -1);
            due.same("traffic " + wrong, due.house.flow(0, wrong, -1, 0), -1);
        }
    }

    @Says(where = "Promise 15", words = "or for another what")
    @Broken(in = "int tellFlow", from = "return what == 0 ? flows : NONE;", to = "return flows;")
    @Broken(in = "int tellFlow", from = "default: return NONE;", to = "default: return 0;")
    @Broken(in = "int tellFlow", from = "default: return NONE;", to = "case -1:\ncase 3: return 0;\ndefault: return NONE;")
    static void noOtherWhatOfAFlow(Due due) {
        due.fresh("ports 2;", "cell 0 0;slot;");
        for (int what : new int[] {3, 4, -1, -2, Integer.MAX_VALUE, Integer.MIN_VALUE}) {
            due.same("what " + what, due.house.flow(0, 0, 0, what), -1);
        }
        for (int what : new int[] {1, 2, 3, -1}) {
            due.same("how many, what " + what, due.house.flow(0, 0, -1, what), -1);
        }
    }

    @Says(where = "Promise 16", words = "-2: there is none such (of any)")
    @Broken(in = "public int after", from = "return NOT_THERE;", to = "return NONE;")
    @Broken(in = AFTER, from = "what >= 10 + run.ports", to = "what > 10 + run.ports")
    @Broken(in = AFTER, from = "what >= 10 + run.ports", to = "what >= 10 + PORTS_MOST")
    @Broken(in = "public int after(", from = "begins(crossbar, traffic)", to = "begins(crossbar == 1 ? 0 : crossbar, traffic)")
    @Broken(in = "public int after(", from = "begins(crossbar, traffic)", to = "begins(Math.max(crossbar, 0), traffic)")
    @Broken(in = "public int after(", from = "begins(crossbar, traffic)", to = "begins(crossbar, traffic == 1 ? 0 : traffic)")
    @Broken(in = "public int after(", from = "begins(crossbar, traffic)", to = "begins(crossbar, Math.max(traffic, 0))")
    static void nothingAfterNone(Due due) {
        due.fresh("ports 2;", "cell 0 0;slot;");
        due.same("crossbar 1 of one", due.house.after(1, 0, 0), -2);
        due.same("traffic 1 of one", due.house.after(0, 1, 0), -2);
        for (int wrong : WRONG) {
            due.same("crossbar " + wrong, due.house.after(wrong, 0, 0), -2);
            due.same("traffic " + wrong, due.house.after(0, wrong, 0), -2);
        }
        for (int ports = 1; ports <= 6; ports++) {
            due.fresh("ports " + ports + ";", "");
            due.after(9 + ports, 0, 10 + ports, -2);
        }
    }

    @Says(where = "Promise 16", words = "or for another what")
    @Broken(in = AFTER, from = "what < 10 ||", to = "what < -1 ||")
    @Broken(in = AFTER, from = "case 9:", to = "case -1:\ncase 9:")
    @Broken(in = AFTER, from = "what >= 10 + run.ports", to = "what >= 10 + run.ports && what < 100")
    static void noOtherWhatAfter(Due due) {
        due.fresh("ports 6;", "cell 0 0;slot;");
        for (int what : new int[] {16, 17, 20, 100, -1, -2, Integer.MAX_VALUE, Integer.MIN_VALUE}) {
            due.after(what, -2);
        }
    }
}
