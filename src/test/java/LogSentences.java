/** LOGS that FIT, ASK of term 4; promise 18. */
final class LogSentences {
    private static final int[] WRONG = {2, -1, -2, Integer.MAX_VALUE, Integer.MIN_VALUE};
    private static final String NOT_SO = "past.wereMatched(slot, input, output) != isMatch";
    private static final String FIT = "int tell(int what) {\n            switch (what) {\n                case 0: return size;";

    private LogSentences() {
    }

    @Says(where = "Term 4", words = "ROUNDS, 1 .. 4, and POINTER, below PORTS (10 times the ROUNDS, and the POINTER) FIT")
    @Broken(in = "public int fits", from = "rounds <= ROUNDS_MOST", to = "rounds < ROUNDS_MOST")
    @Broken(in = "public int fits", from = "int rounds = 1;", to = "int rounds = 2;")
    @Broken(in = "public int fits", from = "pointer < fitting.ports", to = "pointer < fitting.ports - 1")
    @Broken(in = "public int fits", from = "pointer < fitting.ports", to = "pointer <= fitting.ports")
    @Broken(in = "public int fits", from = "int pointer = 0;", to = "int pointer = 1;")
    static void roundsAndPointersHaveTheirBounds(Due due) {
        for (int ports = 1; ports <= 6; ports++) {
            due.fresh("ports " + ports + ";rounds 1;pointer 5;", "slot;", "");
            due.fits(0, 4 * ports, 10, 10, 9 + ports, 9 + ports, 9 + 4 * ports, 39 + ports, 10 + 4 * ports, -2);
        }
    }

    @Says(where = "Term 4", words = "all else as told")
    @Broken(in = "void begin(Told told, int crossbar, int roundsNow", from = "Math.min(DEPTH_MOST, told.bar(crossbar, BAR_DEPTH))",
        to = "roundsNow == told.bar(crossbar, BAR_ROUNDS) ? told.bar(crossbar, BAR_DEPTH) : DEPTH_MOST")
    static void depthIsAsToldInALog(Due due) {
        // the second CELL is LOST, so that there is none for SLOT 2
        due.fresh("ports 2;depth 1;", "cell 0 0;fan 1 1;slot;cell 0 0;slot;slot;", "match 1 0 0;apart 2 0 0;");
        due.fits(0, 8);
        due.fresh("ports 2;", "cell 0 0;fan 1 1;slot;cell 0 0;slot;slot;", "match 1 0 0;match 2 0 0;");
        due.fits(0, 8);
    }

    @Says(where = "Term 4", words = "behind all DEEDS up to STOP, each FACT is so")
    @Broken(in = "public int fits", from = "DEEDS_MOST", to = "DEEDS_MOST - 1")
    @Broken(in = "int follow", from = "return k;", to = "continue;")
    @Broken(in = "boolean allSo", from = "int facts = told.lineCount(LOGS, log);", to = "int facts = Math.min(7, told.lineCount(LOGS, log));")
    @Broken(in = "boolean allSo", from = "k = 0;", to = "k = 1;")
    @Broken(in = "public int fits(", from = "run.follow(told, traffic, DEEDS_MOST);", to = "run.follow(told, traffic, DEEDS_MOST);\nrun.passSlot();")
    static void eachFactIsHeldAgainstAllSlots(Due due) {
        due.fresh("ports 2;", "idle 1;".repeat(38) + "cell 0 1;slot;", "match 38 0 1;");
        due.fits(0, 8);
        // SLOT 1 is behind STOP
        due.fresh("ports 2;", "cell 0 0;slot;cell 0 0;cell 0 0;slot;", "match 1 0 0;");
        due.fits(0, 0);
        due.fresh("ports 2;", "cell 0 0;slot;", "match 0 0 1;" + "match 0 0 0;".repeat(7));
        due.fits(0, 0);
        due.fresh("ports 2;", "cell 0 0;slot;", "match 0 0 0;".repeat(7) + "match 0 0 1;");
        due.fits(0, 0);
        due.fresh("ports 2;", "cell 0 0;slot;", "match 0 0 0;".repeat(8));
        due.fits(0, 8);
    }

    @Says(where = "Term 4", words = "in that SLOT that INPUT and that OUTPUT were MATCHED (match), were not (apart")
    @Broken(in = "boolean allSo", from = NOT_SO, to = "past.wereMatched(slot, input, output) && !isMatch")
    @Broken(in = "boolean allSo", from = NOT_SO, to = "!past.wereMatched(slot, input, output) && isMatch")
    static void matchIsSoAndApartIsNot(Due due) {
        String[] logs = {"match 0 0 1;", "apart 0 0 1;", "match 0 1 0;", "apart 0 1 0;", "match 1 0 1;", "apart 1 0 1;", "match 0 0 0;",
            // what a FAN takes is not MATCHED
            "match 1 1 0;", "apart 1 1 0;"};
        int[] fit = {8, 0, 0, 8, 0, 8, 0, 0, 8};
        for (int k = 0; k < logs.length; k++) {
            due.fresh("ports 2;", "cell 0 1;slot;fan 1 1;slot;", logs[k]);
            due.fits(0, fit[k]);
        }
    }

    @Says(where = "Term 4", words = "of what is not there")
    @Broken(in = "boolean allSo", from = NOT_SO, to = NOT_SO + " && !(isMatch && input > 1)")
    @Broken(in = "boolean allSo", from = NOT_SO, to = NOT_SO + " && !(isMatch && output > 1)")
    @Broken(in = "boolean allSo", from = NOT_SO, to = "!isMatch && input > 1 || " + NOT_SO)
    @Broken(in = "boolean allSo", from = NOT_SO, to = "!isMatch && output > 1 || " + NOT_SO)
    static void whatIsNotThereIsAlwaysApart(Due due) {
        String[] missing = {" 0 2 0;", " 0 5 1;", " 0 0 2;", " 0 1 5;", " 0 2 2;", " 0 5 5;"};
        for (String fact : missing) {
            due.fresh("ports 2;", "cell 0 0;cell 1 1;slot;", "match" + fact);
            due.fits(0, 0);
            due.fresh("ports 2;", "cell 0 0;cell 1 1;slot;", "apart" + fact);
            due.fits(0, 8);
        }
    }

    @Says(where = "Term 4", words = "of a SLOT that was not: match never, apart always")
    @Broken(in = "boolean wereMatched", from = "slot < slots", to = "slot < SLOTS_MOST")
    @Broken(in = "boolean allSo", from = NOT_SO, to = NOT_SO + " && !(isMatch && slot >= past.slots)")
    @Broken(in = "boolean allSo", from = NOT_SO, to = "!isMatch && slot >= past.slots || " + NOT_SO)
    static void slotThatWasNotIsAlwaysApart(Due due) {
        due.fresh("ports 2;", "cell 0 0;slot;cell 0 0;slot;", "match 1 0 0;");
        due.fits(0, 8);
        // the run before had such a SLOT
        due.tell(1, 0, "cell 0 0;slot;cell 0 0;");
        due.fits(0, 0);
        due.fresh("ports 2;", "cell 0 0;slot;", "match 60 0 0;");
        due.fits(0, 0);
        due.fresh("ports 2;", "cell 0 0;slot;", "apart 60 0 0;apart 1 0 0;");
        due.fits(0, 8);
        due.fresh("ports 2;", "", "apart 0 0 0;");
        due.fits(0, 8);
    }

    @Says(where = "Term 4", words = "how many; the k-th, rising")
    @Broken(in = "void keepIfSo", from = "fitting[size] = fit;", to = "fitting[FITS_MOST - 1 - size] = fit;")
    @Broken(in = "void keepIfSo", from = "size >= FITS_MOST", to = "size >= 7")
    static void thoseThatFitAreToldRising(Due due) {
        due.fresh("ports 2;", "", "");
        due.fits(0, 8, 10, 10, 11, 11, 12, 20, 13, 21, 14, 30, 15, 31, 16, 40, 17, 41);
        due.fresh("ports 6;", "", "");
        due.fits(0, 24, 33, 45);
        // from GRANT 0 on 0 is granted first
        due.fresh("ports 2;", "cell 0 0;cell 1 0;slot;", "match 0 0 0;");
        due.fits(0, 4, 10, 10, 11, 20, 12, 30, 13, 40);
    }

    @Says(where = "Term 4", words = "SURE of ROUNDS, of POINTER: it, if it is one in all that FIT")
    @Broken(in = "int sureOf", from = "if (k > 0 && part != sure)", to = "if (k > size)")
    @Broken(in = "int sureOf", from = "if (k > 0 && part != sure)", to = "if (k > 0)")
    @Broken(in = "int sureOf", from = "ofRounds ? fitting[k] / 10 : fitting[k] % 10", to = "ofRounds ? fitting[k] % 10 : fitting[k] / 10")
    static void sureIfItIsOneInAll(Due due) {
        // one FITS: by more ROUNDS both pairs are MATCHED, by POINTER 0 only the first
        due.fresh("ports 2;", "burst 0 3;burst 1 3;slot;", "match 0 1 1;apart 0 0 0;");
        due.fits(0, 1, 1, 1, 2, 1, 10, 11);
        // by ROUNDS 1 and POINTERS 0, 2 OUTPUT 1 grants 0, which accepts OUTPUT 0
        due.fresh("ports 3;", "cell 1 1;burst 0 3;slot;", "apart 0 1 1;");
        due.fits(0, 2, 1, 1, 2, -1, 10, 10, 11, 12);
        // one POINTER by all ROUNDS
        due.fresh("ports 2;", "cell 0 0;cell 1 0;slot;", "match 0 1 0;");
        due.fits(0, 4, 1, -1, 2, 1);
    }

    @Says(where = "Promise 18", words = "1, 2: SURE of ROUNDS, of POINTER")
    @Broken(in = "int sureOf", from = "fitting[k] / 10", to = "fitting[k] / 9")
    @Broken(in = "int sureOf", from = "fitting[k] % 10", to = "fitting[k] % 5")
    static void sureOfTheGreatest(Due due) {
        // by each of the ROUNDS the next INPUT from POINTER on is MATCHED with the OUTPUT of its number
        String all = "burst 0 63;burst 1 63;burst 2 63;burst 3 63;burst 4 63;burst 5 63;slot;";
        due.fresh("ports 6;", all, "match 0 5 5;match 0 2 2;");
        due.fits(0, 2, 1, 4, 2, -1, 10, 42, 11, 45, 12, -2);
        due.fresh("ports 6;", all, "match 0 5 5;match 0 2 2;apart 0 3 3;");
        due.fits(0, 1, 1, 4, 2, 5, 10, 45, 11, -2);
    }

    @Says(where = "Promise 18", words = "1, 2: SURE of ROUNDS, of POINTER (NONE: not one, or nothing FITS)")
    @Broken(in = "int sureOf", from = "int sure = NONE;", to = "int sure = 0;")
    @Broken(in = "int sureOf", from = "return NONE;", to = "return part;")
    static void notSureOfSeveralOrNone(Due due) {
        due.fresh("ports 2;", "slot;", "");
        due.fits(0, 8, 1, -1, 2, -1);
        due.fresh("ports 2;", "slot;", "match 0 0 0;");
        due.fits(0, 0, 1, -1, 2, -1);
    }

    @Says(where = "Term 4", words = "ASK: the SLOT (10 times it, and an OUTPUT) such that of all that FIT the greatest number by which one INPUT, or none, is MATCHED with that OUTPUT in it is least")
    @Broken(in = "int mostAlike", from = "int answer = Past.inputOf(pairs[k * SLOTS_MOST + slot], output) + 1;", to = "int answer = Past.inputOf(pairs[k * SLOTS_MOST + slot], output);")
    @Broken(in = "int mostAlike", from = "pairs[k * SLOTS_MOST + slot]", to = "pairs[slot]")
    @Broken(in = "int mostAlike", from = "tally[k] = 0;", to = "")
    @Broken(in = "int mostAlike", from = "for (int k = 0; k < size; k++)", to = "for (int k = 1; k < size; k++)")
    @Broken(in = "int mostAlike", from = "answer <= PORTS_MOST", to = "answer < PORTS_MOST")
    @Broken(in = "int bestToAsk", from = "best = 10 * s + o;", to = "best = 6 * s + o;")
    @Broken(in = "int bestToAsk", from = "most < least", to = "most > least")
    static void askWhereAnswersDiffer(Due due) {
        // OUTPUT 0 is never MATCHED, OUTPUT 1 with 0 or 1 by POINTER
        due.fresh("ports 2;", "cell 0 1;cell 1 1;slot;", "");
        due.fits(3, 1);
        due.fresh("ports 2;", "idle 9;".repeat(34) + "cell 0 1;cell 1 1;slot;", "");
        due.fits(3, 3061);
        // in SLOT 1 OUTPUT 0 is MATCHED with 0 by all but ROUNDS 1 and POINTER 1
        due.fresh("ports 2;", "slot;burst 0 3;burst 1 3;slot;", "");
        due.fits(0, 8, 3, 10);
        // two FIT; what they tell differs first in SLOT 3, where OUTPUT 2 grants from their POINTERS 0, 2 on
        due.fresh("ports 3;", "cell 1 1;burst 0 3;slot;idle 2;cell 0 2;cell 2 2;slot;", "apart 0 1 1;");
        due.fits(0, 2, 10, 10, 11, 12, 3, 32);
        // all are alike: the last INPUT, or none
        due.fresh("ports 6;", "cell 5 1;slot;", "");
        due.fits(0, 24, 3, 0);
        // by a LOG that tells the POINTER all answers are alike
        due.fresh("ports 2;", "cell 0 1;cell 1 1;slot;", "match 0 1 1;");
        due.fits(3, 0);
    }

    @Says(where = "Term 4", words = "the greatest number by which one INPUT, or none, is MATCHED with that OUTPUT in it is least")
    @Broken(in = "int mostAlike", from = "k <= PORTS_MOST", to = "k < PORTS_MOST")
    @Broken(in = "int mostAlike", from = "k <= PORTS_MOST", to = "k < ports")
    static void lastInputIsCountedAnewForEachOutput(Due due) {
        // 5 with OUTPUT 0 by all in SLOT 0; with OUTPUT 1 by 20 of 24 in SLOT 1
        due.fresh("ports 6;", "cell 5 0;slot;cell 5 1;cell 0 1;slot;", "");
        due.fits(0, 24, 3, 11);
        due.fresh("ports 5;", "cell 4 0;slot;cell 4 1;cell 0 1;slot;", "");
        due.fits(0, 20, 3, 11);
    }

    @Says(where = "Term 4", words = "of several the least")
    @Broken(in = "int bestToAsk", from = "most < least", to = "most <= least")
    static void leastOfSeveralIsAsked(Due due) {
        due.fresh("ports 2;", "cell 0 1;cell 1 1;slot;slot;", "");
        due.fits(3, 1);
        due.fresh("ports 3;", "idle 3;", "");
        due.fits(3, 0);
    }

    @Says(where = "Promise 18", words = "3: ASK (NONE: nothing FITS, or there are no SLOTS)")
    @Broken(in = "int bestToAsk", from = "int best = NONE;", to = "int best = 0;")
    @Broken(in = "int bestToAsk", from = "s < slots && size > 0", to = "s <= slots")
    @Broken(in = "int bestToAsk", from = "size > 0", to = "size > 1")
    static void nothingToAsk(Due due) {
        due.fresh("ports 2;", "cell 0 0;slot;", "match 0 1 1;");
        due.fits(0, 0, 3, -1);
        due.fresh("ports 2;", "cell 0 0;", "");
        due.fits(0, 8, 3, -1);
        due.fresh("ports 2;", "", "");
        due.fits(0, 8, 3, -1);
        due.fresh("ports 2;", "cell 0 0;slot;", "");
        due.fits(3, 0);
        due.tell(2, 0, "match 0 1 1;");
        due.fits(3, -1);
        // one FITS: all that can be asked is alike, and the least is told
        due.fresh("ports 2;", "burst 0 3;burst 1 3;slot;", "match 0 1 1;apart 0 0 0;");
        due.fits(0, 1, 3, 0);
    }

    @Says(where = "Promise 18", words = "-2: there is none such (of any)")
    @Broken(in = "public int fits", from = "!told.has(CROSSBARS, crossbar)", to = "crossbar >= told.counts[0]")
    @Broken(in = "public int fits", from = "!told.has(CROSSBARS, crossbar)", to = "crossbar < 0 || crossbar >= TEXTS_MOST")
    @Broken(in = "public int fits", from = "!told.has(TRAFFICS, traffic)", to = "traffic < 0 || traffic >= TEXTS_MOST")
    @Broken(in = "public int fits", from = "!told.has(LOGS, log)", to = "log < 0 || log >= TEXTS_MOST")
    @Broken(in = "public int fits", from = "!told.has(LOGS, log)", to = "log >= told.counts[2]")
    @Broken(in = "public int fits", from = "return NOT_THERE;", to = "return NONE;")
    static void nothingFitsOfNone(Due due) {
        due.fresh("ports 2;", "slot;", "match 0 0 0;");
        due.fits(0, 0);
        due.same("crossbar 1 of one", due.house.fits(1, 0, 0, 0), -2);
        due.same("traffic 1 of one", due.house.fits(0, 1, 0, 0), -2);
        due.same("log 1 of one", due.house.fits(0, 0, 1, 0), -2);
        for (int wrong : WRONG) {
            due.same("crossbar " + wrong, due.house.fits(wrong, 0, 0, 0), -2);
            due.same("traffic " + wrong, due.house.fits(0, wrong, 0, 0), -2);
            due.same("log " + wrong, due.house.fits(0, 0, wrong, 0), -2);
        }
    }

    @Says(where = "Promise 18", words = "10 + k: the k-th. -2: there is none such (of any)")
    @Broken(in = FIT, from = "what >= 10 + size", to = "what > 10 + size")
    @Broken(in = FIT, from = "what >= 10 + size", to = "what >= 10 + FITS_MOST")
    static void noSuchFit(Due due) {
        due.fresh("ports 6;", "", "");
        due.fits(10, 10, 33, 45, 34, -2);
        due.fresh("ports 2;", "cell 0 0;cell 1 0;slot;", "match 0 0 0;");
        due.fits(13, 40, 14, -2, 33, -2);
        due.fresh("ports 2;", "slot;", "match 0 0 0;");
        due.fits(10, -2);
    }

    @Says(where = "Promise 18", words = "or for another what")
    @Broken(in = FIT, from = "what < 10 ||", to = "what < 9 ||")
    @Broken(in = FIT, from = "what < 10 ||", to = "what < 4 ||")
    @Broken(in = FIT, from = "case 3:", to = "case -1:\ncase 3:")
    static void noOtherWhatOfFits(Due due) {
        due.fresh("ports 2;", "slot;", "");
        for (int what : new int[] {4, 5, 6, 7, 8, 9, -1, -2, Integer.MAX_VALUE, Integer.MIN_VALUE}) {
            due.fits(what, -2);
        }
    }
}
