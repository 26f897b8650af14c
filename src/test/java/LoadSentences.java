/** FULL LOAD, RHYTHM and JUDGES of term 3; promises 11 to 13. */
final class LoadSentences {
    private static final String JUDGE = "int tell(Run run, int what)";
    private static final String FIND = "void findRhythm()";
    private static final int[] WRONG = {2, -1, -2, Integer.MAX_VALUE, Integer.MIN_VALUE};
    private static final String ALL_SIX = "burst 0 63;burst 1 63;burst 2 63;burst 3 63;burst 4 63;burst 5 63;";

    private LoadSentences() {
    }

    @Says(where = "Term 3", words = "FULL LOAD of a CROSSBAR: SLOTS without FANS, no QUEUE ever being empty: the INPUT that is MATCHED with an OUTPUT in a SLOT")
    @Broken(in = "class FullLoad", from = "(1 << matcher.ports) - 1", to = "(1 << matcher.ports) - 2")
    @Broken(in = "int inputAt", from = "s <= slot", to = "s < slot")
    @Broken(in = "class FullLoad", from = "matcher.passRounds(rounds);", to = "matcher.passRounds(rounds + 1);")
    static void fullLoadNeverEmpties(Due due) {
        due.fresh("ports 3;rounds 1;depth 1;", "");
        due.full(0, 0, -1, -1);
        // GRANTS 1 0 0, ACCEPTS 1 0 0: OUTPUT 0 grants 1, the others 0, which accepts 1
        due.full(1, 1, 0, -1);
        // GRANTS 2 1 0, ACCEPTS 2 1 0: each its own
        due.full(2, 2, 1, 0);
        due.full(3, 0, 2, 1);
        due.full(4, 1, 0, 2);
        due.full(5, 2, 1, 0);
    }

    @Says(where = "Promise 11", words = "FULL LOAD, SLOT 0 .. 99")
    @Broken(in = "public int full", from = "slot >= FULL_SLOTS", to = "slot > FULL_SLOTS")
    @Broken(in = "public int full", from = "slot >= FULL_SLOTS", to = "slot >= FULL_SLOTS - 1")
    @Broken(in = "public int full", from = "slot < 0", to = "slot <= 0")
    @Broken(in = "int inputAt", from = "s <= slot", to = "s <= Math.min(slot, 97)")
    static void fullLoadIsToldOfAHundredSlots(Due due) {
        due.fresh("ports 2;rounds 2;", "");
        due.full(0, 0, 1);
        due.full(98, 0, 1);
        due.full(99, 1, 0);
        for (int slot : new int[] {100, 101, -1, -2, Integer.MAX_VALUE, Integer.MIN_VALUE}) {
            due.full(slot, -1, -1);
        }
    }

    @Says(where = "Promise 11", words = "the INPUT, NONE: none")
    @Broken(in = "int inputAt", from = "return matcher.matched[output];", to = "return Math.max(0, matcher.matched[output]);")
    static void outputWithoutAnInputIsNone(Due due) {
        due.fresh("ports 2;rounds 1;", "");
        due.full(0, 0, -1);
        due.full(1, 1, 0);
    }

    @Says(where = "Promise 11", words = "or there is none such (of any)")
    @Broken(in = "public int full", from = "!told.has(CROSSBARS, crossbar)", to = "crossbar >= told.counts[0]")
    @Broken(in = "public int full", from = "output < 0 ||", to = "")
    @Broken(in = "public int full", from = "output >= told.bar(crossbar, BAR_PORTS)", to = "output > PORTS_MOST")
    @Broken(in = "public int full", from = "output >= told.bar(crossbar, BAR_PORTS)", to = "output >= told.bar(crossbar, BAR_PORTS) - 1")
    @Broken(in = "public int full", from = "output >= told.bar(crossbar, BAR_PORTS)", to = "output > told.bar(crossbar, BAR_PORTS)")
    static void noFullLoadOfNone(Due due) {
        due.fresh("full");
        due.same("of none", due.house.full(0, 0, 0), -1);
        due.tell(0, -1, "ports 3;rounds 4;");
        due.full(2, 2, 1, 0, -1, -1, -1, -1, -1);
        for (int wrong : new int[] {6, 7, -1, -2, Integer.MAX_VALUE, Integer.MIN_VALUE}) {
            due.same("output " + wrong, due.house.full(0, 2, wrong), -1);
        }
        due.same("crossbar 1 of one", due.house.full(1, 2, 0), -1);
        for (int wrong : WRONG) {
            due.same("crossbar " + wrong, due.house.full(wrong, 2, 0), -1);
        }
        due.fresh("ports 6;rounds 4;", "");
        // by each of the ROUNDS all OUTPUTS grant the next INPUT, which accepts the next of them; there is no OUTPUT 6
        due.full(0, 0, 1, 2, 3, -1, -1, -1);
    }

    @Says(where = "Term 3", words = "RHYTHM: the first SLOT behind which all GRANTS and ACCEPTS are as they were behind an earlier SLOT")
    @Broken(in = FIND, from = "pointers[k] == pointers[slots]", to = "pointers[k] == pointers[slots] && k > 1")
    @Broken(in = "long pointersNow", from = "p < matcher.ports", to = "p < 1")
    static void rhythmIsTheFirstThatComesAgain(Due due) {
        // behind SLOT 0: GRANTS 1 0, ACCEPTS 1 0; 1: 0 1, 0 1; 2: 1 0, 1 0 again
        due.rhythm("ports 2;rounds 1;", 3, 2, 4, 1);
        // behind SLOT 0: 1 0 0; 1: 2 1 0; 2: 0 2 1; 3: 1 0 2; 4: 2 1 0 again
        due.rhythm("ports 3;rounds 1;", 5, 3, 9, 2);
    }

    @Says(where = "Term 3", words = "or at the beginning")
    @Broken(in = FIND, from = "k >= 0 && ago == 0", to = "k > 0 && ago == 0")
    @Broken(in = FIND, from = "pointers[0] = pointersNow();", to = "pointers[0] = NONE;")
    static void rhythmMayGoBackToTheBeginning(Due due) {
        due.rhythm("ports 1;rounds 1;", 1, 1, 1, 0);
        due.rhythm("ports 1;rounds 4;pointer 5;", 1, 1, 1, 0);
    }

    @Says(where = "Term 3", words = "how many SLOTS went by till then; how many ago that was; how many were MATCHED in these")
    @Broken(in = FIND, from = "slots = s + 1;", to = "slots = s + 2;")
    @Broken(in = FIND, from = "ago = slots - k;", to = "ago = slots - k - 1;")
    @Broken(in = "int tellRhythm", from = "madeFrom(slots - ago)", to = "madeFrom(0)")
    @Broken(in = "int tellRhythm", from = "madeFrom(slots - ago)", to = "madeFrom(slots - ago + 1)")
    static void rhythmIsCounted(Due due) {
        due.rhythm("ports 4;rounds 1;", 7, 4, 16, 3);
        due.rhythm("ports 6;rounds 1;pointer 5;", 11, 6, 36, 5);
    }

    @Says(where = "Term 3", words = "STEP: the first SLOT from which on in all SLOTS all are MATCHED (none)")
    @Broken(in = "int stepAt", from = "made[step - 1] == matcher.ports", to = "made[step - 1] >= matcher.ports - 1")
    @Broken(in = "int stepAt", from = "while (step > 0 &&", to = "while (step > slots - ago &&")
    @Broken(in = "int stepAt", from = "while (step > 0 &&", to = "while (step > 1 &&")
    static void stepIsTheFirstWholeSlot(Due due) {
        // one pair more by each SLOT: ROUNDS in SLOT 0, all as soon as there are so many
        for (int ports = 1; ports <= 6; ports++) {
            for (int rounds = 1; rounds <= 4; rounds++) {
                due.fresh("ports " + ports + ";rounds " + rounds + ";", "");
                due.same("step", due.house.rhythm(0, 3), Math.max(0, ports - rounds));
            }
        }
    }

    @Says(where = "Promise 12", words = "RHYTHM, what 0: how many, 1: how many ago, 2: MATCHED in these, 3: STEP (NONE)")
    @Broken(in = "int tellRhythm", from = "case 0: return slots;", to = "case 0: return ago;")
    @Broken(in = "int tellRhythm", from = "case 1: return ago;", to = "case 1: return slots;")
    @Broken(in = "int tellRhythm", from = "case 3: return stepAt();", to = "case 3: return stepAt() + 1;")
    static void rhythmIsToldByItsWhats(Due due) {
        due.rhythm("ports 5;rounds 2;pointer 3;", 9, 5, 25, 3);
    }

    @Says(where = "Promise 12", words = "RHYTHM, what 0: how many, 1: how many ago, 2: MATCHED in these")
    @Broken(in = FIND, from = "int k = slots - 1;", to = "int k = slots + 1;")
    @Broken(in = "class FullLoad", from = "POINTER_BITS = 3;", to = "POINTER_BITS = 2;")
    @Broken(in = FIND, from = "ago = 0;", to = "")
    static void allRhythmsAreToldOneAfterAnother(Due due) {
        for (int rounds = 1; rounds <= 4; rounds++) {
            due.fresh("rhythms by " + rounds + " rounds");
            due.tell(0, -1, "");
            for (int n = 0; n < 36; n++) {
                int ports = 1 + n / 6;
                due.tell(0, 0, "ports " + ports + ";rounds " + rounds + ";pointer " + n % 6 + ";");
                // they fall into step one pair a SLOT, and then each INPUT has each OUTPUT in turn
                int[] answers = {2 * ports - 1, ports, ports * ports, Math.max(0, ports - rounds)};
                for (int what = 0; what < answers.length; what++) {
                    due.same(ports + " ports, pointer " + n % 6 + ": rhythm(0, " + what + ")", due.house.rhythm(0, what), answers[what]);
                }
            }
        }
    }

    @Says(where = "Promise 12", words = "-2: there is none such, or for another what")
    @Broken(in = "public int rhythm", from = "!told.has(CROSSBARS, crossbar)", to = "crossbar < 0 || crossbar >= TEXTS_MOST")
    @Broken(in = "public int rhythm", from = "!told.has(CROSSBARS, crossbar)", to = "crossbar >= told.counts[0]")
    @Broken(in = "public int rhythm", from = "return NOT_THERE;", to = "return NONE;")
    @Broken(in = "int tellRhythm", from = "default: return NOT_THERE;", to = "default: return NONE;")
    @Broken(in = "int tellRhythm", from = "default: return NOT_THERE;", to = "case -1:\ncase 4: return 0;\ndefault: return NOT_THERE;")
    static void noRhythmOfNone(Due due) {
        due.fresh("rhythm");
        due.same("of none", due.house.rhythm(0, 0), -2);
        due.tell(0, -1, "");
        due.same("crossbar 1 of one", due.house.rhythm(1, 0), -2);
        for (int wrong : WRONG) {
            due.same("crossbar " + wrong, due.house.rhythm(wrong, 0), -2);
        }
        for (int what : new int[] {4, 5, -1, -2, Integer.MAX_VALUE, Integer.MIN_VALUE}) {
            due.same("what " + what, due.house.rhythm(0, what), -2);
        }
    }

    @Says(where = "Term 3", words = "JUDGES of a STATE, by CELLS in QUEUES (no FANS)")
    @Broken(in = "boolean mayPair", from = "run.cellsIn[i * PORTS_MOST + o] > 0", to = "(run.cellsIn[i * PORTS_MOST + o] > 0 || run.fansIn[i] > 0)")
    static void judgesSeeNoFans(Due due) {
        due.fresh("ports 2;", "fan 0 3;fan 1 3;");
        due.judge(2, 0, 0, 1, 0, 2, 0, 3, 0, 4, 1, 10, 6, 11, 6);
    }

    @Says(where = "Term 3", words = "MOST: the greatest number of INPUTS that can be each paired with an OUTPUT of its own for which it has CELLS")
    @Broken(in = "boolean mayPair", from = "!holds(set, o) && ", to = "")
    @Broken(in = "int bestFrom", from = "most = Math.max(most, sumWith(run, i, o, set));", to = "return sumWith(run, i, o, set);")
    @Broken(in = "int bestFrom", from = "int most = best[(i + 1) * SETS_MOST + set];", to = "int most = 0;")
    @Broken(in = "int bestOf", from = "best[run.ports * SETS_MOST + set] = 0;", to = "")
    static void mostHasAnOutputForEach(Due due) {
        due.fresh("ports 6;", ALL_SIX);
        due.judge(0, 0, 0);
        due.judge(6, 0, 6);
        // the first must leave OUTPUT 0 to the second
        due.fresh("ports 3;", "burst 0 3;cell 1 0;");
        due.judge(2, 0, 2);
        due.fresh("ports 3;", "cell 0 0;cell 1 0;cell 2 0;");
        due.judge(3, 0, 1);
        // 1 stays without one
        due.fresh("ports 3;", "cell 0 0;cell 1 0;cell 2 1;");
        due.judge(3, 0, 2);
    }

    @Says(where = "Term 3", words = "HEAVY: the greatest sum of how many CELLS the QUEUES of such pairs have")
    @Broken(in = "int sumWith", from = "weighs ? run.cellsIn[i * PORTS_MOST + o] : 1", to = "1")
    @Broken(in = JUDGE, from = "case 1: return bestOf(run, true);", to = "case 1: return bestOf(run, true) + 1;")
    @Broken(in = "int bestFrom", from = "int most = best[(i + 1) * SETS_MOST + set];", to = "int most = best[(i + 1) * SETS_MOST];")
    static void heavyCountsTheCells(Due due) {
        due.fresh("ports 2;", "");
        due.judge(0, 1, 0);
        // the QUEUE of 0 for OUTPUT 1 grows to 4, while FANS of 1 take that OUTPUT
        due.fresh("ports 2;", "burst 0 3;slot;burst 0 3;fan 1 2;slot;burst 0 3;fan 1 2;slot;burst 0 3;cell 1 1;");
        due.state(10, 100, 1, 101, 4, 111, 1);
        due.judge(10, 0, 2, 1, 4);
        // 1 stays without a pair: two CELLS of 0 for OUTPUT 0 outweigh its one
        due.fresh("ports 3;", "cell 0 0;fan 1 1;slot;cell 0 0;cell 1 0;cell 2 1;");
        due.state(6, 100, 2, 110, 1, 121, 1);
        due.judge(6, 0, 2, 1, 3, 10, 0, 11, 6, 12, 1);
        // 1 has none, 0 and 2 want the same
        due.fresh("ports 3;", "cell 0 0;cell 2 0;");
        due.judge(2, 0, 1, 1, 1);
    }

    @Says(where = "Term 3", words = "the first row of such a heaviest pairing by numbers")
    @Broken(in = "int firstRow", from = "for (int o = run.ports - 1; o >= 0; o--)", to = "for (int o = 0; o < run.ports; o++)")
    @Broken(in = "int firstRow", from = "set |= 1 << chosen;", to = "")
    static void firstOfTheHeaviestRows(Due due) {
        // 0 with OUTPUT 1 alone, or 0 0 and 1 1: two CELLS each
        due.fresh("ports 2;", "burst 0 3;slot;burst 0 3;cell 1 1;");
        due.state(4, 100, 1, 101, 2, 111, 1);
        due.judge(4, 1, 2, 10, 0, 11, 1);
        due.fresh("ports 3;", "burst 0 7;burst 1 7;burst 2 7;");
        due.judge(3, 1, 3, 10, 0, 11, 1, 12, 2);
        due.fresh("ports 3;", "burst 0 7;burst 1 1;burst 2 7;");
        due.judge(3, 1, 3, 10, 1, 11, 0, 12, 2);
    }

    @Says(where = "Term 3", words = "(of each INPUT the OUTPUT, 6 for none; all pairs having CELLS)")
    @Broken(from = "UNPAIRED = 6", to = "UNPAIRED = -1")
    @Broken(in = "boolean mayPair", from = "> 0", to = ">= 0")
    static void withoutAPairItIsSix(Due due) {
        due.fresh("ports 3;", "cell 1 1;");
        due.judge(0, 10, 6, 11, 6, 12, 6);
        due.judge(1, 10, 6, 11, 1, 12, 6);
        // four CELLS of 0 outweigh a pair of 1, which has none then
        due.fresh("ports 2;", "burst 0 3;slot;burst 0 3;fan 1 2;slot;burst 0 3;fan 1 2;slot;burst 0 3;cell 1 1;");
        due.judge(10, 10, 1, 11, 6);
    }

    @Says(where = "Term 3", words = "NEXT: how many pairs would be MATCHED, if a SLOT came now, there being no FANS")
    @Broken(in = "void matchNow", from = "matcher.free();", to = "matcher.free();\nif (inputsWithFans() != 0) {\nsendFans(inputsWithFans());\n}")
    @Broken(in = "void matchNow", from = "matcher.passRounds(rounds);", to = "matcher.passRounds(ROUNDS_MOST);")
    @Broken(in = "void matchNow", from = "matcher.free();", to = "")
    static void nextIsWithoutFans(Due due) {
        due.fresh("ports 2;rounds 1;", "burst 0 3;burst 1 3;slot;fan 0 3;");
        due.judge(0, 2, 0);
        due.judge(2, 2, 1);
        // GRANTS 1 0, ACCEPTS 1 0 behind the SLOT: 1 with OUTPUT 0, 0 with OUTPUT 1
        due.judge(3, 2, 2);
        due.judge(4, 2, 2, 3, 2);
        due.fresh("ports 2;rounds 2;", "burst 0 3;burst 1 3;");
        due.judge(2, 2, 2);
        due.fresh("ports 2;", "cell 0 0;fan 1 2;slot;");
        due.judge(2, 2, 1);
        due.judge(3, 2, 0);
    }

    @Says(where = "Term 3", words = "how many CELLS their QUEUES have")
    @Broken(in = "int cellsOfMatched", from = "sum += run.cellsIn[i * PORTS_MOST + o];", to = "sum++;")
    @Broken(in = "int cellsOfMatched", from = "sum += run.cellsIn[i * PORTS_MOST + o];", to = "sum += run.cellsIn[i * PORTS_MOST + o] - 1;")
    static void cellsOfNextAreCounted(Due due) {
        due.fresh("ports 2;", "cell 0 0;fan 1 1;slot;cell 0 0;fan 1 1;slot;cell 0 0;cell 1 1;");
        due.judge(0, 3, 0);
        due.judge(7, 2, 1, 3, 3);
        due.judge(8, 2, 2, 3, 4);
        due.fresh("ports 6;rounds 3;", ALL_SIX);
        due.judge(6, 2, 3, 3, 3);
    }

    @Says(where = "Term 3", words = "NEED: the least number of ROUNDS, 1 .. 6")
    @Broken(from = "NEED_MOST = 6", to = "NEED_MOST = 5")
    @Broken(in = "int roundsNeeded", from = "boolean goesOn = true;", to = "boolean goesOn = matcher.couldMatchMore();")
    @Broken(in = "int roundsNeeded", from = "int need = 0;", to = "int need = 1;")
    static void needIsOneToSix(Due due) {
        due.fresh("ports 6;rounds 1;", ALL_SIX);
        due.judge(0, 4, 1);
        due.judge(1, 4, 1);
        due.judge(2, 4, 2);
        // all pointers are alike: each of the ROUNDS makes one pair
        due.judge(6, 4, 6);
    }

    @Says(where = "Term 3", words = "by which, all else as it is, no INPUT and OUTPUT that are both not BUSY have CELLS for one another")
    @Broken(in = "boolean couldMatchMore", from = "holds(freeOutputs, o) && ", to = "")
    @Broken(in = "boolean couldMatchMore", from = "(wanted[o] & freeInputs) != 0", to = "wanted[o] != 0")
    @Broken(in = "boolean couldMatchMore", from = "int o = 0;", to = "int o = 1;")
    @Broken(in = "int roundsNeeded", from = "matcher.free();", to = "")
    static void needEndsWhenNoneCouldMatch(Due due) {
        // 0 takes OUTPUT 0, 1 has CELLS for it alone; 2 has CELLS for OUTPUT 1, which granted 0 first
        due.fresh("ports 3;rounds 1;", "burst 0 3;cell 1 0;cell 2 1;");
        due.judge(2, 4, 1);
        due.judge(3, 4, 2);
        due.fresh("ports 3;rounds 4;", "burst 0 3;cell 1 0;cell 2 1;");
        due.judge(3, 4, 2);
        // from POINTER 1 on 1 accepts OUTPUT 1; OUTPUT 0 and 2 come in the second of the ROUNDS
        due.fresh("ports 3;rounds 1;pointer 1;", "burst 1 3;cell 2 0;");
        due.judge(1, 4, 1);
        due.judge(2, 4, 2);
        // a SLOT in which FANS made all OUTPUTS BUSY went by
        due.fresh("ports 3;rounds 1;", "burst 0 7;burst 1 7;fan 2 7;slot;");
        due.judge(4, 4, 2);
    }

    @Says(where = "Promise 13", words = "JUDGES of a STATE, what 0: MOST, 1: HEAVY, 2: NEXT, 3: CELLS of NEXT, 4: NEED")
    @Broken(in = JUDGE, from = "case 0: return bestOf(run, false);", to = "case 0: return bestOf(run, true);")
    @Broken(in = JUDGE, from = "case 1: return bestOf(run, true);", to = "case 1: return bestOf(run, false);")
    @Broken(in = JUDGE, from = "return cellsOfMatched(run);", to = "return run.ports - Integer.bitCount(run.matcher.freeOutputs);")
    @Broken(in = JUDGE, from = "case 4: return roundsNeeded(run.matcher);", to = "case 4: return bestOf(run, false);")
    static void judgesAreToldByTheirWhats(Due due) {
        // 0 has three CELLS for OUTPUT 0, 1 one for 0 and one for 1; by ROUNDS 1 OUTPUT 0 grants 0, OUTPUT 1 grants 1
        due.fresh("ports 3;rounds 1;", "cell 0 0;fan 1 1;slot;cell 0 0;fan 1 1;slot;cell 0 0;burst 1 3;");
        due.judge(8, 0, 2, 1, 4, 2, 2, 3, 4, 4, 1, 10, 0, 11, 1, 12, 6);
    }

    @Says(where = "Promise 13", words = "-2: there is no such STATE, INPUT, or for another what")
    @Broken(in = "public int judge", from = ": NOT_THERE", to = ": NONE")
    @Broken(in = "public int judge(", from = "reaches(crossbar, traffic, n)", to = "reaches(crossbar == 1 ? 0 : crossbar, traffic, n)")
    @Broken(in = "public int judge(", from = "reaches(crossbar, traffic, n)", to = "reaches(Math.max(crossbar, 0), traffic, n)")
    @Broken(in = "public int judge(", from = "reaches(crossbar, traffic, n)", to = "reaches(crossbar, traffic == 1 ? 0 : traffic, n)")
    @Broken(in = "public int judge(", from = "reaches(crossbar, traffic, n)", to = "reaches(crossbar, Math.max(traffic, 0), n)")
    @Broken(in = "public int judge(", from = "reaches(crossbar, traffic, n)", to = "reaches(crossbar, traffic, Math.min(n, 2))")
    @Broken(in = "public int judge(", from = "reaches(crossbar, traffic, n)", to = "reaches(crossbar, traffic, Math.max(n, 0))")
    static void noJudgesOfNoState(Due due) {
        due.fresh("ports 2;", "cell 0 0;slot;cell 2 0;slot;");
        due.judge(2, 0, 0);
        for (int n : new int[] {3, 4, 5, 41, -1, -2, Integer.MAX_VALUE, Integer.MIN_VALUE}) {
            due.judge(n, 0, -2, 4, -2, 10, -2);
        }
        due.same("crossbar 1", due.house.judge(1, 0, 0, 0), -2);
        due.same("traffic 1", due.house.judge(0, 1, 0, 0), -2);
        for (int wrong : WRONG) {
            due.same("crossbar " + wrong, due.house.judge(wrong, 0, 0, 0), -2);
            due.same("traffic " + wrong, due.house.judge(0, wrong, 0, 0), -2);
        }
    }

    @Says(where = "Promise 13", words = "10 + i: of INPUT i by the first row. -2: there is no such STATE, INPUT, or for another what")
    @Broken(in = JUDGE, from = "what >= 10 + run.ports", to = "what > 10 + run.ports")
    @Broken(in = JUDGE, from = "what >= 10 + run.ports", to = "what >= 16")
    @Broken(in = JUDGE, from = "what < 10 ||", to = "what < 5 ||")
    @Broken(in = JUDGE, from = "case 4: return", to = "case -1:\ncase 4: return")
    static void noOtherWhatOfJudges(Due due) {
        for (int ports = 1; ports <= 6; ports++) {
            due.fresh("ports " + ports + ";", "cell 0 0;");
            due.same("a last INPUT", due.house.judge(0, 0, 1, 9 + ports), ports == 1 ? 0 : 6);
            for (int what : new int[] {10 + ports, 16, 17, 5, 6, 7, 8, 9, -1, -2, Integer.MAX_VALUE, Integer.MIN_VALUE}) {
                due.judge(1, what, -2);
            }
        }
    }
}
