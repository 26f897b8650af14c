/** Term 1: texts, their NUMBERS, FAULTS and their places. */
final class TextSentences {
    private static final String LESS = "number < LEAST[range]";
    private static final String MORE = "number > GREATEST[range]";
    private static final String LIMIT = "sort == TRAFFICS ? DEEDS_MOST : FACTS_MOST";
    private static final String ROOM = "counts[sort] < TEXTS_MOST";
    private static final String COUNTS = "{1, 1, 1, 1, 0, 1, 2, 2, 2, 3, 3}";

    private TextSentences() {
    }

    private static void bar(Due due, String text, int what, int answer) {
        due.right(0, text);
        due.same("crossbar(0, " + what + ")", due.house.crossbar(0, what), answer);
    }

    @Says(where = "Term 1", words = "PORTS, 1 .. 6")
    @Broken(from = LESS, to = LESS + " - (range == 0 ? 1 : 0)")
    @Broken(from = LESS, to = LESS + " + (range == 0 ? 1 : 0)")
    @Broken(from = MORE, to = MORE + " - (range == 0 ? 1 : 0)")
    @Broken(from = MORE, to = MORE + " + (range == 0 ? 1 : 0)")
    static void portsAreOneToSix(Due due) {
        due.faulty(0, "ports 0;", 2, 6);
        bar(due, "ports 1;", 0, 1);
        bar(due, "ports 6;", 0, 6);
        due.faulty(0, "ports 7;", 2, 6);
        due.faulty(0, "ports 99;", 2, 6);
    }

    @Says(where = "Term 1", words = "PORTS, 1 .. 6 (4 at first)")
    @Broken(from = "bar[BAR_PORTS] = 4;", to = "bar[BAR_PORTS] = 6;")
    static void portsAreFourAtFirst(Due due) {
        bar(due, "", 0, 4);
        bar(due, "rounds 1;depth 1;pointer 1;", 0, 4);
    }

    @Says(where = "Term 1", words = "as many INPUTS, OUTPUTS, from 0 on")
    @Broken(in = "int tell(int what) {\n            if (what < 10)", from = "at >= ports", to = "at >= ports - 1")
    @Broken(in = "int tell(int what) {\n            if (what < 10)", from = "at >= ports", to = "at > ports")
    @Broken(in = "int tell(int what) {\n            if (what < 10)", from = "at >= ports", to = "at == 0 || at > ports")
    static void inputsAndOutputsAreAsManyAsPorts(Due due) {
        due.fresh("ports 3;", "");
        due.state(0, 10, 0, 12, 0, 13, -2, 20, 0, 22, 0, 23, -2);
        due.fresh("ports 1;", "");
        due.state(0, 10, 0, 11, -2, 20, 0, 21, -2);
        due.fresh("ports 6;", "");
        due.state(0, 15, 0, 16, -2, 25, 0, 26, -2);
    }

    @Says(where = "Term 1", words = "ROUNDS, 1 .. 4")
    @Broken(from = LESS, to = LESS + " - (range == 3 ? 1 : 0)")
    @Broken(from = LESS, to = LESS + " + (range == 3 ? 1 : 0)")
    @Broken(from = MORE, to = MORE + " - (range == 3 ? 1 : 0)")
    @Broken(from = MORE, to = MORE + " + (range == 3 ? 1 : 0)")
    static void roundsAreOneToFour(Due due) {
        due.faulty(0, "rounds 0;", 2, 7);
        bar(due, "rounds 1;", 1, 1);
        bar(due, "rounds 4;", 1, 4);
        due.faulty(0, "rounds 5;", 2, 7);
    }

    @Says(where = "Term 1", words = "ROUNDS, 1 .. 4 (2 at first)")
    @Broken(from = "bar[BAR_ROUNDS] = 2;", to = "bar[BAR_ROUNDS] = 1;")
    static void roundsAreTwoAtFirst(Due due) {
        bar(due, "", 1, 2);
        bar(due, "ports 1;depth 1;pointer 1;", 1, 2);
    }

    @Says(where = "Term 1", words = "a DEPTH, 1 .. 9")
    @Broken(from = LESS, to = LESS + " - (range == 6 ? 1 : 0)")
    @Broken(from = LESS, to = LESS + " + (range == 6 ? 1 : 0)")
    @Broken(from = MORE, to = MORE + " - (range == 6 ? 1 : 0)")
    @Broken(from = MORE, to = MORE + " + (range == 6 ? 1 : 0)")
    static void depthIsOneToNine(Due due) {
        due.faulty(0, "depth 0;", 2, 6);
        bar(due, "depth 1;", 2, 1);
        bar(due, "depth 9;", 2, 9);
        due.faulty(0, "depth 10;", 2, 6);
    }

    @Says(where = "Term 1", words = "a DEPTH, 1 .. 9 (9 at first)")
    @Broken(from = "bar[BAR_DEPTH] = 9;", to = "bar[BAR_DEPTH] = 8;")
    static void depthIsNineAtFirst(Due due) {
        bar(due, "", 2, 9);
        bar(due, "ports 1;rounds 1;pointer 1;", 2, 9);
    }

    @Says(where = "Term 1", words = "a POINTER, 0 .. 5")
    @Broken(from = LESS, to = LESS + " + (range == 9 ? 1 : 0)")
    @Broken(from = MORE, to = MORE + " - (range == 9 ? 1 : 0)")
    @Broken(from = MORE, to = MORE + " + (range == 9 ? 1 : 0)")
    static void pointerIsZeroToFive(Due due) {
        bar(due, "pointer 0;", 3, 0);
        bar(due, "ports 1;pointer 5;", 3, 5);
        due.faulty(0, "pointer 6;", 2, 8);
    }

    @Says(where = "Term 1", words = "a POINTER, 0 .. 5 (0 at first)")
    @Broken(from = "bar[BAR_POINTER] = 0;", to = "bar[BAR_POINTER] = 1;")
    @Broken(from = "bar[BAR_POINTER] = 0;", to = "")
    static void pointerIsZeroAtFirst(Due due) {
        bar(due, "", 3, 0);
        due.tell(0, 0, "pointer 3;");
        due.tell(0, 0, "");
        due.same("behind one that had another", due.house.crossbar(0, 3), 0);
        bar(due, "ports 1;rounds 1;depth 1;", 3, 0);
    }

    @Says(where = "Term 1", words = "A TRAFFIC has DEEDS, at most 40, from 0 on")
    @Broken(from = LIMIT, to = "sort == TRAFFICS ? DEEDS_MOST - 1 : FACTS_MOST")
    @Broken(from = LIMIT, to = "sort == TRAFFICS ? DEEDS_MOST + 1 : FACTS_MOST")
    static void fortyDeedsAreTheMost(Due due) {
        due.right(1, "idle 3;" + "slot;".repeat(38) + "idle 7;");
        due.same("how many", due.house.deed(0, -1, 0), 40);
        due.same("deed 0", due.house.deed(0, 0, 1), 3);
        due.same("deed 39", due.house.deed(0, 39, 1), 7);
        due.faulty(1, "slot;".repeat(41), 3, 200);
    }

    @Says(where = "Term 1", words = "A LOG has FACTS, at most 8, from 0 on")
    @Broken(from = LIMIT, to = "sort == TRAFFICS ? DEEDS_MOST : FACTS_MOST - 1")
    @Broken(from = LIMIT, to = "sort == TRAFFICS ? DEEDS_MOST : FACTS_MOST + 1")
    static void eightFactsAreTheMost(Due due) {
        due.right(2, "match 3 0 0;" + "apart 0 0 0;".repeat(6) + "match 7 0 0;");
        due.same("how many", due.house.fact(0, -1, 0), 8);
        due.same("fact 0", due.house.fact(0, 0, 1), 3);
        due.same("fact 7", due.house.fact(0, 7, 1), 7);
        due.faulty(2, "apart 0 0 0;".repeat(9), 3, 96);
    }

    @Says(where = "Term 1", words = "THE TAPE has at most 600 bytes")
    @Broken(from = "TAPE_MOST = 600", to = "TAPE_MOST = 599")
    @Broken(from = "TAPE_MOST = 600", to = "TAPE_MOST = 620")
    @Broken(from = "length = Math.min(size, from.length)", to = "length = Math.min(size, from.length - 8)")
    static void tapeOfSixHundredIsReadWhole(Due due) {
        bar(due, "ports 2;".repeat(74) + "ports 3;", 0, 3);
        due.faulty(0, "ports 2;".repeat(74) + "ports 33", 1, 600);
        due.fresh("a tape that is full");
        due.tape(" ".repeat(600));
        due.same("feed", due.house.feed(0, 0, 0, 0, 0), -1);
    }

    @Says(where = "Term 1", words = "TOKENS, as long as they go")
    @Broken(in = "void takeWord()", from = "isLetter(tape[at])", to = "isLetter(tape[at]) && at - start < 4")
    @Broken(in = "void takeDigits()", from = "isDigit(tape[at])", to = "isDigit(tape[at]) && at - start < 1")
    static void tokensGoAsLongAsTheyCan(Due due) {
        due.faulty(1, "slotslot;", 1, 0);
        due.faulty(1, "slot;slots;", 1, 5);
        due.faulty(1, "cell 12;", 1, 7);
        due.right(1, "idle 09;");
    }

    @Says(where = "Term 1", words = "blanks (10, 32) between")
    @Broken(from = "(tape[at] == 10 || tape[at] == 32)", to = "tape[at] == 10")
    @Broken(from = "(tape[at] == 10 || tape[at] == 32)", to = "tape[at] == 32")
    @Broken(from = "(tape[at] == 10 || tape[at] == 32)", to = "tape[at] >= 9 && tape[at] <= 32")
    @Broken(from = "(tape[at] == 10 || tape[at] == 32)", to = "tape[at] <= 32")
    @Broken(in = "void nextToken()", from = "while (at < length", to = "while (at > 0 && at < length")
    static void tenAndThirtyTwoAreTheBlanks(Due due) {
        bar(due, " \nports\n 3 \n;\n\n  rounds  1\n;", 0, 3);
        for (int sign : new int[] {0, 9, 11, 12, 13, 31, 33, 128, 160, 255}) {
            due.faulty(0, "ports" + (char) sign + "3;", 1, 5);
        }
        due.faulty(0, "por ts 3;", 1, 0);
        due.faulty(1, "idle 1 2;", 1, 7);
    }

    @Says(where = "Term 1", words = "words, rows of letters a .. z")
    @Broken(in = "boolean isLetter", from = "sign >= 'a'", to = "sign > 'a'")
    @Broken(in = "boolean isLetter", from = "sign >= 'a'", to = "sign >= 'a' - 1")
    @Broken(in = "boolean isLetter", from = "sign <= 'z'", to = "sign < 'z'")
    @Broken(in = "boolean isLetter", from = "sign <= 'z'", to = "sign <= 'z' + 1")
    @Broken(in = "boolean isLetter", from = "return ", to = "return sign >= 'A' && sign <= 'Z' || ")
    static void wordsAreRowsOfSmallLetters(Due due) {
        due.faulty(0, "portsa 3;", 1, 0);
        due.faulty(0, "portsz 3;", 1, 0);
        due.faulty(0, "ports` 3;", 1, 5);
        due.faulty(0, "ports{ 3;", 1, 5);
        due.faulty(0, "ports 3;xA", 1, 8);
        due.faulty(0, "portsA 3;", 1, 5);
    }

    @Says(where = "Term 1", words = "NUMBERS, 1 or 2 digits")
    @Broken(in = "boolean isDigit", from = "sign >= '0'", to = "sign > '0'")
    @Broken(in = "boolean isDigit", from = "sign >= '0'", to = "sign >= '0' - 1")
    @Broken(in = "boolean isDigit", from = "sign <= '9'", to = "sign < '9'")
    @Broken(in = "boolean isDigit", from = "sign <= '9'", to = "sign <= '9' + 1")
    @Broken(from = "token = at - start <= 2 ?", to = "token = at - start <= 1 ?")
    @Broken(from = "token = at - start <= 2 ?", to = "token = at - start <= 3 ?")
    @Broken(from = "token = at - start <= 2 ?", to = "token = at - start == 2 ?")
    static void numbersHaveOneOrTwoDigits(Due due) {
        bar(due, "depth 9;", 2, 9);
        bar(due, "depth 09;", 2, 9);
        bar(due, "pointer 00;", 3, 0);
        due.faulty(0, "depth 009;", 1, 6);
        due.faulty(0, "depth ;", 1, 6);
        due.faulty(0, "depth 9:;", 1, 7);
        due.faulty(0, "depth 9/;", 1, 7);
    }

    @Says(where = "Term 1", words = "; one byte")
    @Broken(from = "token = tape[at] == ';'",
        to = "while (at + 1 < length && tape[at] == ';' && tape[at + 1] == ';') {\nat++;\n}\ntoken = tape[at] == ';'")
    static void semicolonIsOneByte(Due due) {
        due.faulty(1, "slot;;", 1, 5);
        due.faulty(1, ";;", 1, 0);
        due.faulty(0, "ports 3;;ports 3;", 1, 8);
    }

    @Says(where = "Term 1", words = "A CROSSBAR's text: {('ports' | 'rounds' | 'depth' | 'pointer') NUMBER ';'}")
    @Broken(from = COUNTS, to = "{0, 1, 1, 1, 0, 1, 2, 2, 2, 3, 3}")
    @Broken(from = COUNTS, to = "{1, 1, 1, 2, 0, 1, 2, 2, 2, 3, 3}")
    @Broken(from = "FIRST_WORD = {0, 4, 9, 11}", to = "FIRST_WORD = {0, 3, 9, 11}")
    @Broken(in = "boolean readLine", from = "if (token != TOKEN_SEMICOLON)",
        to = "if (token != TOKEN_SEMICOLON && token != TOKEN_END)")
    @Broken(in = "boolean isHere", from = "int k = 0;", to = "int k = 1;")
    @Broken(in = "boolean isHere", from = "k < word.length()", to = "k < word.length() - 1")
    static void crossbarsTextHasOneNumberALine(Due due) {
        due.right(0, "ports 1;rounds 1;depth 1;pointer 1;");
        due.right(0, "pointer 1;depth 1;rounds 1;ports 1;pointer 1;");
        due.faulty(0, "ports;", 1, 5);
        due.faulty(0, "pointer 1 1;", 1, 10);
        due.faulty(0, "depth 1", 1, 7);
        due.faulty(0, "slot;", 1, 0);
        due.faulty(0, "match 0 0 0;", 1, 0);
        due.faulty(0, "port 1;", 1, 0);
        due.faulty(0, "sorts 1;", 1, 0);
        due.faulty(0, "portz 1;", 1, 0);
    }

    @Says(where = "Term 1", words = "A CROSSBAR's text: {")
    @Broken(in = "void read(", from = "goesOn && token != TOKEN_END", to = "goesOn && (n == 0 && sort == 0 || token != TOKEN_END)")
    static void crossbarsTextMayBeEmpty(Due due) {
        due.right(0, "");
        due.right(0, " \n");
    }

    @Says(where = "Term 1", words = "A TRAFFIC's text: {")
    @Broken(in = "void read(", from = "goesOn && token != TOKEN_END", to = "goesOn && (n == 0 && sort == 1 || token != TOKEN_END)")
    static void trafficsTextMayBeEmpty(Due due) {
        due.right(1, "");
        due.right(1, " \n");
        due.same("how many deeds", due.house.deed(0, -1, 0), 0);
    }

    @Says(where = "Term 1", words = "A LOG's text: {")
    @Broken(in = "void read(", from = "goesOn && token != TOKEN_END", to = "goesOn && (n == 0 && sort == 2 || token != TOKEN_END)")
    static void logsTextMayBeEmpty(Due due) {
        due.right(2, "");
        due.right(2, " \n");
        due.same("how many facts", due.house.fact(0, -1, 0), 0);
    }

    @Says(where = "Term 1", words = "A TRAFFIC's text: {('slot' | 'idle' NUMBER | ('cell' | 'fan' | 'burst') NUMBER NUMBER) ';'}")
    @Broken(from = COUNTS, to = "{1, 1, 1, 1, 1, 1, 2, 2, 2, 3, 3}")
    @Broken(from = COUNTS, to = "{1, 1, 1, 1, 0, 0, 2, 2, 2, 3, 3}")
    @Broken(from = COUNTS, to = "{1, 1, 1, 1, 0, 2, 2, 2, 2, 3, 3}")
    @Broken(from = COUNTS, to = "{1, 1, 1, 1, 0, 1, 1, 2, 2, 3, 3}")
    @Broken(from = COUNTS, to = "{1, 1, 1, 1, 0, 1, 2, 3, 2, 3, 3}")
    @Broken(from = COUNTS, to = "{1, 1, 1, 1, 0, 1, 2, 2, 1, 3, 3}")
    @Broken(from = "FIRST_WORD = {0, 4, 9, 11}", to = "FIRST_WORD = {0, 4, 8, 11}")
    static void trafficsLinesHaveTheirNumbers(Due due) {
        due.right(1, "slot;idle 1;cell 1 1;fan 1 1;burst 1 1;");
        due.faulty(1, "slot 1;", 1, 5);
        due.faulty(1, "idle;", 1, 4);
        due.faulty(1, "idle 1 1;", 1, 7);
        due.faulty(1, "cell 1;", 1, 6);
        due.faulty(1, "cell 1 1 1;", 1, 9);
        due.faulty(1, "fan 1;", 1, 5);
        due.faulty(1, "fan 1 1 1;", 1, 8);
        due.faulty(1, "burst 1;", 1, 7);
        due.faulty(1, "burst 1 1 1;", 1, 10);
        due.faulty(1, "match 1 1 1;", 1, 0);
        due.faulty(1, "ports 1;", 1, 0);
        due.faulty(1, "slot", 1, 4);
    }

    @Says(where = "Term 1", words = "idle: how many slots, 1 .. 9")
    @Broken(from = LESS, to = LESS + " - (range == 15 ? 1 : 0)")
    @Broken(from = LESS, to = LESS + " + (range == 15 ? 1 : 0)")
    @Broken(from = MORE, to = MORE + " - (range == 15 ? 1 : 0)")
    @Broken(from = MORE, to = MORE + " + (range == 15 ? 1 : 0)")
    static void idleIsOneToNine(Due due) {
        due.faulty(1, "idle 0;", 2, 5);
        due.right(1, "idle 1;");
        due.right(1, "idle 9;");
        due.faulty(1, "idle 10;", 2, 5);
    }

    @Says(where = "Term 1", words = "cell: an INPUT, an OUTPUT, 0 .. 5")
    @Broken(from = LESS, to = LESS + " + (range == 18 ? 1 : 0)")
    @Broken(from = MORE, to = MORE + " - (range == 18 ? 1 : 0)")
    @Broken(from = MORE, to = MORE + " + (range == 18 ? 1 : 0)")
    @Broken(from = LESS, to = LESS + " + (range == 19 ? 1 : 0)")
    @Broken(from = MORE, to = MORE + " - (range == 19 ? 1 : 0)")
    @Broken(from = MORE, to = MORE + " + (range == 19 ? 1 : 0)")
    static void cellsNumbersAreZeroToFive(Due due) {
        due.right(1, "cell 0 5;");
        due.right(1, "cell 5 0;");
        due.faulty(1, "cell 6 0;", 2, 5);
        due.faulty(1, "cell 0 6;", 2, 7);
    }

    @Says(where = "Term 1", words = "fan, burst: an INPUT, 0 .. 5, OUTPUTS as bits, 1 .. 63")
    @Broken(from = LESS, to = LESS + " + (range == 21 ? 1 : 0)")
    @Broken(from = MORE, to = MORE + " - (range == 21 ? 1 : 0)")
    @Broken(from = MORE, to = MORE + " + (range == 21 ? 1 : 0)")
    @Broken(from = LESS, to = LESS + " - (range == 22 ? 1 : 0)")
    @Broken(from = LESS, to = LESS + " + (range == 22 ? 1 : 0)")
    @Broken(from = MORE, to = MORE + " - (range == 22 ? 1 : 0)")
    @Broken(from = MORE, to = MORE + " + (range == 22 ? 1 : 0)")
    static void fansNumbersHaveTheirBounds(Due due) {
        due.right(1, "fan 0 63;");
        due.right(1, "fan 5 1;");
        due.faulty(1, "fan 6 1;", 2, 4);
        due.faulty(1, "fan 0 0;", 2, 6);
        due.faulty(1, "fan 0 64;", 2, 6);
    }

    @Says(where = "Term 1", words = "fan, burst: an INPUT, 0 .. 5, OUTPUTS as bits, 1 .. 63")
    @Broken(from = LESS, to = LESS + " + (range == 24 ? 1 : 0)")
    @Broken(from = MORE, to = MORE + " - (range == 24 ? 1 : 0)")
    @Broken(from = MORE, to = MORE + " + (range == 24 ? 1 : 0)")
    @Broken(from = LESS, to = LESS + " - (range == 25 ? 1 : 0)")
    @Broken(from = LESS, to = LESS + " + (range == 25 ? 1 : 0)")
    @Broken(from = MORE, to = MORE + " - (range == 25 ? 1 : 0)")
    @Broken(from = MORE, to = MORE + " + (range == 25 ? 1 : 0)")
    static void burstsNumbersHaveTheirBounds(Due due) {
        due.right(1, "burst 0 63;");
        due.right(1, "burst 5 1;");
        due.faulty(1, "burst 6 1;", 2, 6);
        due.faulty(1, "burst 0 0;", 2, 8);
        due.faulty(1, "burst 0 64;", 2, 8);
    }

    @Says(where = "Term 1", words = "A LOG's text: {('match' | 'apart') NUMBER NUMBER NUMBER ';'}")
    @Broken(from = COUNTS, to = "{1, 1, 1, 1, 0, 1, 2, 2, 2, 2, 3}")
    @Broken(from = COUNTS, to = "{1, 1, 1, 1, 0, 1, 2, 2, 2, 3, 2}")
    @Broken(from = "FIRST_WORD = {0, 4, 9, 11}", to = "FIRST_WORD = {0, 4, 9, 10}")
    static void logsLinesHaveThreeNumbers(Due due) {
        due.right(2, "match 1 1 1;apart 1 1 1;");
        due.faulty(2, "match 1 1;", 1, 9);
        due.faulty(2, "match 1 1 1 1;", 1, 12);
        due.faulty(2, "apart 1 1;", 1, 9);
        due.faulty(2, "apart 1 1 1 1;", 1, 12);
        due.faulty(2, "apart;", 1, 5);
        due.faulty(2, "slot;", 1, 0);
        due.faulty(2, "match 1 1 1", 1, 11);
    }

    @Says(where = "Term 1", words = "(a SLOT, 0 .. 60, an INPUT, an OUTPUT, 0 .. 5)")
    @Broken(from = LESS, to = LESS + " + (range == 27 ? 1 : 0)")
    @Broken(from = MORE, to = MORE + " - (range == 27 ? 1 : 0)")
    @Broken(from = MORE, to = MORE + " + (range == 27 ? 1 : 0)")
    @Broken(from = LESS, to = LESS + " + (range == 28 ? 1 : 0)")
    @Broken(from = MORE, to = MORE + " - (range == 28 ? 1 : 0)")
    @Broken(from = MORE, to = MORE + " + (range == 28 ? 1 : 0)")
    @Broken(from = LESS, to = LESS + " + (range == 29 ? 1 : 0)")
    @Broken(from = MORE, to = MORE + " - (range == 29 ? 1 : 0)")
    @Broken(from = MORE, to = MORE + " + (range == 29 ? 1 : 0)")
    static void matchsNumbersHaveTheirBounds(Due due) {
        due.right(2, "match 0 0 0;");
        due.right(2, "match 60 5 5;");
        due.faulty(2, "match 61 0 0;", 2, 6);
        due.faulty(2, "match 0 6 0;", 2, 8);
        due.faulty(2, "match 0 0 6;", 2, 10);
    }

    @Says(where = "Term 1", words = "(a SLOT, 0 .. 60, an INPUT, an OUTPUT, 0 .. 5)")
    @Broken(from = LESS, to = LESS + " + (range == 30 ? 1 : 0)")
    @Broken(from = MORE, to = MORE + " - (range == 30 ? 1 : 0)")
    @Broken(from = MORE, to = MORE + " + (range == 30 ? 1 : 0)")
    @Broken(from = LESS, to = LESS + " + (range == 31 ? 1 : 0)")
    @Broken(from = MORE, to = MORE + " - (range == 31 ? 1 : 0)")
    @Broken(from = MORE, to = MORE + " + (range == 31 ? 1 : 0)")
    @Broken(from = LESS, to = LESS + " + (range == 32 ? 1 : 0)")
    @Broken(from = MORE, to = MORE + " - (range == 32 ? 1 : 0)")
    @Broken(from = MORE, to = MORE + " + (range == 32 ? 1 : 0)")
    static void apartsNumbersHaveTheirBounds(Due due) {
        due.right(2, "apart 0 0 0;");
        due.right(2, "apart 60 5 5;");
        due.faulty(2, "apart 61 0 0;", 2, 6);
        due.faulty(2, "apart 0 6 0;", 2, 8);
        due.faulty(2, "apart 0 0 6;", 2, 10);
    }

    @Says(where = "Term 1", words = "Later ones strike (ports, rounds, depth, pointer)")
    @Broken(from = "bar[word] = numbers[0];", to = "bar[word] = Math.max(bar[word], numbers[0]);")
    @Broken(from = "bar[word] = numbers[0];", to = "bar[word] = Math.min(bar[word], numbers[0]);")
    static void laterOnesStrikeInACrossbar(Due due) {
        String[] lines = {"ports 5;ports 3;", "rounds 4;rounds 1;", "depth 8;depth 2;", "pointer 4;pointer 1;"};
        int[] last = {3, 1, 2, 1};
        String[] others = {"ports 3;ports 5;", "rounds 1;rounds 4;", "depth 2;depth 8;", "pointer 1;pointer 4;"};
        int[] lastOfOthers = {5, 4, 8, 4};
        for (int what = 0; what < 4; what++) {
            bar(due, lines[what], what, last[what]);
            bar(due, others[what], what, lastOfOthers[what]);
        }
    }

    @Says(where = "Term 1", words = "but all others, which are further ones")
    @Broken(in = "void keepLine", from = "if (lineCount >= limitOf(sort))",
        to = "if (lineCount > 0 && lines[(lineCount - 1) * Told.LINE_SIZE + 1] == numbers[0])")
    static void likeLinesAreFurtherOnes(Due due) {
        due.right(1, "slot;slot;cell 1 1;cell 1 1;");
        due.same("deeds", due.house.deed(0, -1, 0), 4);
        due.right(2, "match 1 1 1;match 1 1 1;apart 1 1 1;");
        due.same("facts", due.house.fact(0, -1, 0), 3);
    }

    @Says(where = "Term 1", words = "FAULTS of all, with places (a token's first byte; the end's)")
    @Broken(in = "boolean noTextGoesOn", from = "faultPlace = start;", to = "faultPlace = at;")
    @Broken(in = "void noteFault", from = "faultPlace = start;", to = "faultPlace = at - 1;")
    static void placesAreOfFirstBytes(Due due) {
        due.faulty(0, "  port 3;", 1, 2);
        due.faulty(0, "ports  rounds;", 1, 7);
        due.faulty(0, "depth \n10;", 2, 7);
        due.faulty(1, "fan 0 64;", 2, 6);
    }

    @Says(where = "Term 1", words = "the end's")
    @Broken(in = "void nextToken", from = "token = TOKEN_END;",
        to = "token = TOKEN_END;\nstart = Math.max(0, at - 1);")
    @Broken(in = "void nextToken", from = "token = TOKEN_END;",
        to = "token = TOKEN_END;\nwhile (start > 0 && tape[start - 1] == 32) {\nstart--;\n}")
    static void placeOfTheEndIsItsOwn(Due due) {
        due.faulty(0, "ports", 1, 5);
        due.faulty(0, "ports 3", 1, 7);
        due.faulty(0, "ports 3  ", 1, 9);
        due.faulty(2, "match 1 1 ", 1, 10);
    }

    @Says(where = "Term 1", words = "1 the first byte or token with which no text goes on")
    @Broken(in = "void read(", from = "nextToken();",
        to = "for (int k = 0; k < length; k++) {\nif (tape[k] == '!') {\nfaultSort = 1;\nfaultPlace = k;\nreturn;\n}\n}\nnextToken();")
    @Broken(in = "void nextToken", from = "TOKEN_SEMICOLON : TOKEN_BAD", to = "TOKEN_SEMICOLON : TOKEN_END")
    static void firstByteOrTokenIsTheFault(Due due) {
        due.faulty(0, "ports 3;!", 1, 8);
        due.faulty(0, "ports !3;", 1, 6);
        due.faulty(0, "port 3;!", 1, 0);
        due.faulty(1, "slot;slot 3 !;", 1, 10);
        due.faulty(1, "slot;x;y;", 1, 5);
    }

    @Says(where = "Term 1", words = "(a longer row of digits is no token)")
    @Broken(from = "token = at - start <= 2 ?", to = "token = at - start <= 9 ?")
    @Broken(from = "token = at - start <= 2 ?", to = "start = at - start > 2 ? start + 2 : start;\ntoken = at - start <= 2 ?")
    static void longerRowOfDigitsIsNoToken(Due due) {
        due.faulty(0, "ports 123;", 1, 6);
        due.faulty(0, "ports 003;", 1, 6);
        due.faulty(1, "cell 1 1234;", 1, 7);
        due.faulty(1, "100;", 1, 0);
    }

    @Says(where = "Term 1", words = "If there is none, the first by place")
    @Broken(in = "boolean noTextGoesOn", from = "faultSort = FAULT_TEXT;",
        to = "if (faultSort != 0) {\nreturn false;\n}\nfaultSort = FAULT_TEXT;")
    static void faultOneGoesBeforeAllOthers(Due due) {
        due.faulty(0, "ports 7;rounds", 1, 14);
        due.faulty(1, "idle 0;x", 1, 7);
        due.faulty(1, "slot;".repeat(41) + "x", 1, 205);
        due.faulty(2, "match 0 0 0;".repeat(9) + ";", 1, 108);
    }

    @Says(where = "Term 1", words = "the first by place")
    @Broken(in = "void noteFault", from = "if (faultSort == 0)", to = "if (faultSort == 0 || sort == FAULT_NUMBER)")
    @Broken(in = "void noteFault", from = "if (faultSort == 0)", to = "if (faultSort == 0 || sort == FAULT_LIMIT)")
    static void firstOfSeveralByPlace(Due due) {
        due.faulty(0, "ports 7;rounds 9;", 2, 6);
        due.faulty(1, "cell 6 7;", 2, 5);
        due.faulty(1, "slot;".repeat(39) + "idle 0;slot;", 2, 200);
        due.faulty(1, "slot;".repeat(41) + "idle 0;", 3, 200);
        due.faulty(1, "slot;".repeat(43), 3, 200);
    }

    @Says(where = "Term 1", words = "2 a NUMBER that can't be")
    @Broken(from = "FAULT_NUMBER = 2", to = "FAULT_NUMBER = 3")
    @Broken(in = "void takeNumber", from = "noteFault(FAULT_NUMBER);", to = "noTextGoesOn();")
    static void numberThatCannotBeIsFaultTwo(Due due) {
        due.faulty(0, "ports 0;", 2, 6);
        due.faulty(1, "slot;burst 0 99;", 2, 13);
        due.faulty(2, "apart 0 0 99;", 2, 10);
    }

    @Says(where = "Term 1", words = "a line with such a NUMBER tells its DEED, FACT all the same")
    @Broken(in = "boolean readLine", from = "if (lineCount >= limitOf(sort))",
        to = "if (lineCount >= limitOf(sort) && at + 1 < length && tape[at + 1] != '0')")
    @Broken(in = "boolean readLine", from = "if (lineCount >= limitOf(sort))",
        to = "if (lineCount >= limitOf(sort) && at + 1 < length && tape[at + 1] != '9')")
    static void lineWithABadNumberCounts(Due due) {
        due.faulty(1, "slot;".repeat(40) + "idle 0;", 3, 200);
        due.faulty(2, "match 0 1 1;".repeat(8) + "match 99 0 0;", 3, 96);
    }

    @Says(where = "Term 1", words = "3 a 41st DEED, a 9th FACT, at its first token")
    @Broken(from = "FAULT_LIMIT = 3", to = "FAULT_LIMIT = 2")
    @Broken(in = "void noteFault", from = "faultPlace = start;", to = "faultPlace = sort == FAULT_LIMIT ? at : start;")
    static void limitsFaultIsAtTheFirstToken(Due due) {
        due.faulty(1, "slot;".repeat(40) + " \n cell 0 0;", 3, 203);
        due.faulty(2, "match 0 0 0;".repeat(8) + " apart 0 0 0;", 3, 97);
    }

    @Says(where = "Term 1", words = "CROSSBARS, at most 2 (sort 0)")
    @Broken(from = ROOM, to = "counts[sort] < (sort == 0 ? 1 : 2)")
    @Broken(from = ROOM, to = "counts[sort] < (sort == 0 ? 3 : 2)")
    static void crossbarsAreTwoAtMost(Due due) {
        due.fresh("crossbars");
        due.same("the first", due.tell(0, -1, "ports 1;"), 0);
        due.same("the second", due.tell(0, -1, "ports 2;"), 1);
        due.same("a third", due.tell(0, -1, "ports 3;"), -2);
        due.same("the second's ports", due.house.crossbar(1, 0), 2);
    }

    @Says(where = "Term 1", words = "TRAFFICS, at most 2 (1)")
    @Broken(from = ROOM, to = "counts[sort] < (sort == 1 ? 1 : 2)")
    @Broken(from = ROOM, to = "counts[sort] < (sort == 1 ? 3 : 2)")
    static void trafficsAreTwoAtMost(Due due) {
        due.fresh("traffics");
        due.same("the first", due.tell(1, -1, "slot;"), 0);
        due.same("the second", due.tell(1, -1, "slot;slot;"), 1);
        due.same("a third", due.tell(1, -1, "slot;"), -2);
        due.same("the second's deeds", due.house.deed(1, -1, 0), 2);
    }

    @Says(where = "Term 1", words = "LOGS, at most 2 (2), from 0 on")
    @Broken(from = ROOM, to = "counts[sort] < (sort == 2 ? 1 : 2)")
    @Broken(from = ROOM, to = "counts[sort] < (sort == 2 ? 3 : 2)")
    static void logsAreTwoAtMost(Due due) {
        due.fresh("logs");
        due.same("the first", due.tell(2, -1, "match 0 0 0;"), 0);
        due.same("the second", due.tell(2, -1, "match 0 0 0;apart 0 0 0;"), 1);
        due.same("a third", due.tell(2, -1, ""), -2);
        due.same("the second's facts", due.house.fact(1, -1, 0), 2);
    }
}
