/** The tape, texts as they are taken and told again, images: promises 1 to 7, 17, 20 to 22. */
final class TapeSentences {
    private static final String HAS_BAR = "!told.has(CROSSBARS, crossbar)";

    private TapeSentences() {
    }

    @Says(where = "What it is", words = "An object is used for at most 512 calls after it has been made")
    @Broken(from = "public int count(int sort) {",
        to = "private int calls = 0;\npublic int count(int sort) {\ncalls++;\nif (calls > 500) {\nreturn 0;\n}")
    static void the512thCallIsAnsweredAsTheFirst(Due due) {
        due.fresh("count");
        // four calls tell the text
        due.tell(0, -1, "ports 2;");
        for (int call = 5; call <= 512; call++) {
            due.same("call " + call, due.house.count(0), 1);
        }
    }

    @Says(where = "Term 5", words = "`NONE = -1`: There is none")
    @Broken(from = "int NONE = -1;", to = "int NONE = -3;")
    static void noneIsMinusOne(Due due) throws ReflectiveOperationException {
        due.same("NONE", CrossbarHouse.class.getField("NONE").getInt(null), -1);
    }

    @Says(where = "Promise 1", words = "No CROSSBARS, TRAFFICS, LOGS")
    @Broken(from = "counts = new int[SORTS]", to = "counts = {1, 0, 0}")
    @Broken(from = "counts = new int[SORTS]", to = "counts = {0, 1, 0}")
    @Broken(from = "counts = new int[SORTS]", to = "counts = {0, 0, 1}")
    @Broken(from = "int length = 0;", to = "int length = 20;")
    static void newOneHasNoTexts(Due due) {
        due.fresh("a new one");
        for (int sort = 0; sort < 3; sort++) {
            due.same("count(" + sort + ")", due.house.count(sort), 0);
        }
        due.same("the tape", due.house.end(1), -1);
    }

    @Says(where = "Promise 1", words = "no images")
    @Broken(from = "imaged = new boolean[IMAGES];", to = "imaged = new boolean[] {true, false, false};")
    @Broken(from = "imaged = new boolean[IMAGES];", to = "imaged = new boolean[] {false, true, false};")
    @Broken(from = "imaged = new boolean[IMAGES];", to = "imaged = new boolean[] {false, false, true};")
    static void newOneHasNoImages(Due due) {
        due.fresh("a new one");
        for (int k = 0; k < 3; k++) {
            due.same("again(" + k + ")", due.house.again(k), false);
        }
    }

    @Says(where = "Promise 2", words = "twenty bytes come behind it")
    @Broken(in = "public int feed", from = "told.put(a);\n        told.put(b);", to = "told.put(b);\n        told.put(a);")
    @Broken(in = "public int feed", from = "told.put(e);\n", to = "")
    @Broken(in = "public int feed", from = "told.put(a);", to = "told.length = 0;\ntold.put(a);")
    static void twentyBytesComeBehind(Due due) {
        due.fresh("feed");
        due.house.feed(0x706f7274, 0x7320323b, 0x706f7274, 0x7320333b, 0x706f7274);
        due.same("feed", due.house.feed(0x7320353b, 0x726f756e, 0x64732033, 0x3b64790a, 0x3132330a), 40);
        due.same("end", due.house.end(33), 33);
        due.same("text", due.house.text(0, -1), 0);
        due.same("ports", due.house.crossbar(0, 0), 5);
        due.same("rounds", due.house.crossbar(0, 1), 3);
    }

    @Says(where = "Promise 2", words = "of each number the highest first")
    @Broken(from = "for (int shift = 24; shift >= 0; shift -= 8)", to = "for (int shift = 0; shift <= 24; shift += 8)")
    static void highestByteIsFirst(Due due) {
        due.fresh("feed");
        // "slot;" and 255s: a highest byte that is below 0 as a number
        due.house.feed(0x736c6f74, 0x3bffffff, -1, -1, -1);
        due.same("text", due.house.text(1, -1), -1);
        due.same("the place", due.house.fault(1), 5);
    }

    @Says(where = "Promise 2", words = "how many it has")
    @Broken(in = "public int feed", from = "return told.length;", to = "return FED_AT_ONCE;")
    static void feedTellsHowManyThereAre(Due due) {
        due.fresh("feed");
        due.same("feed", due.house.feed(0, 0, 0, 0, 0), 20);
        due.same("feed", due.house.feed(0, 0, 0, 0, 0), 40);
        due.house.end(7);
        due.same("feed", due.house.feed(0, 0, 0, 0, 0), 27);
    }

    @Says(where = "Promise 2", words = "if there would be more than 600")
    @Broken(in = "public int feed", from = "> TAPE_MOST", to = ">= TAPE_MOST")
    @Broken(in = "public int feed", from = "> TAPE_MOST", to = "> TAPE_MOST + 1")
    static void sixHundredIsFull(Due due) {
        due.fresh("feed");
        due.tape(" ".repeat(580));
        due.same("feed behind 580", due.house.feed(0, 0, 0, 0, 0), 600);
        due.same("feed behind 600", due.house.feed(0, 0, 0, 0, 0), -1);
        due.house.end(581);
        due.same("feed behind 581", due.house.feed(0, 0, 0, 0, 0), -1);
    }

    @Says(where = "Promise 2", words = "NONE, and nothing comes, if there would be more than 600")
    @Broken(in = "public int feed", from = "return NONE;", to = "told.put(a);\nreturn NONE;")
    @Broken(in = "public int feed", from = "return NONE;", to = "told.length = 0;\nreturn NONE;")
    static void nothingComesBehindTooMany(Due due) {
        due.fresh("feed");
        due.tape(" ".repeat(590));
        due.same("feed behind 590", due.house.feed(0, 0, 0, 0, 0), -1);
        due.same("end(591)", due.house.end(591), -1);
        due.same("end(590)", due.house.end(590), 590);
    }

    @Says(where = "Promise 3", words = "The tape has its first n bytes alone: n")
    @Broken(in = "public int end", from = "told.length = n;", to = "")
    @Broken(in = "public int end", from = "n < 0", to = "n <= 0")
    @Broken(in = "public int end", from = "n > told.length", to = "n >= told.length")
    @Broken(in = "public int end", from = "told.length = n;",
        to = "System.arraycopy(told.tape, told.length - n, told.tape, 0, n);\ntold.length = n;")
    static void endKeepsTheFirstBytes(Due due) {
        due.fresh("end");
        due.tape("ports 3;ports 5;");
        due.same("all of it", due.house.end(16), 16);
        due.same("half of it", due.house.end(8), 8);
        due.same("no more", due.house.end(9), -1);
        due.same("text", due.house.text(0, -1), 0);
        due.same("ports", due.house.crossbar(0, 0), 3);
        // what stood behind is not read
        due.tape("portsports 33;");
        due.house.end(5);
        due.same("text", due.house.text(0, 0), -1);
        due.same("fault(1)", due.house.fault(1), 5);
        due.tape("ports 33;");
        due.house.end(7);
        due.same("text", due.house.text(0, 0), -1);
        due.same("fault(0)", due.house.fault(0), 1);
        due.same("fault(1)", due.house.fault(1), 7);
        due.same("nothing of nothing", due.house.end(0), 0);
        due.tape("ports 2;");
        due.same("nothing of it", due.house.end(0), 0);
        due.same("end(1)", due.house.end(1), -1);
    }

    @Says(where = "Promise 3", words = "NONE if it has not so many")
    @Broken(in = "public int end", from = "n > told.length", to = "n > told.length + 1")
    @Broken(in = "public int end", from = "n > told.length", to = "n > TAPE_MOST")
    @Broken(in = "public int end", from = "return NONE;", to = "told.length = 0;\nreturn NONE;")
    static void endBehindTheTapeIsRefused(Due due) {
        due.fresh("end");
        due.tape("slot;slot;");
        due.same("end(11)", due.house.end(11), -1);
        due.same("end(600)", due.house.end(600), -1);
        due.same("end(greatest)", due.house.end(Integer.MAX_VALUE), -1);
        due.same("it has all", due.house.end(10), 10);
    }

    @Says(where = "Promise 3", words = "or n is below 0")
    @Broken(in = "public int end", from = "n < 0 || ", to = "")
    @Broken(in = "public int end", from = "n < 0 || ", to = "n < -1 || ")
    static void endBelowZeroIsRefused(Due due) {
        due.fresh("end");
        due.tape("slot;slot;");
        due.same("end(-1)", due.house.end(-1), -1);
        due.same("it has all", due.house.end(10), 10);
        due.same("end(-2)", due.house.end(-2), -1);
        due.same("end(least)", due.house.end(Integer.MIN_VALUE), -1);
        due.same("it has all", due.house.end(10), 10);
    }

    @Says(where = "Promise 4", words = "The tape is taken (and is empty then)")
    @Broken(in = "public int text", from = "return told.keep(sort, at, reader);",
        to = "told.length = length;\nreturn told.keep(sort, at, reader);")
    @Broken(in = "public int text", from = "if (reader.faultSort != 0) {", to = "if (reader.faultSort != 0) {\ntold.length = length;")
    static void tapeIsEmptyBehindAText(Due due) {
        due.fresh("text");
        due.same("a right one", due.tell(0, -1, "ports 3;"), 0);
        due.same("the tape", due.house.end(1), -1);
        due.same("a FAULT", due.tell(0, -1, "ports x;"), -1);
        due.same("the tape", due.house.end(1), -1);
    }

    @Says(where = "Promise 4", words = "a further one (at NONE), or in the place of one: its number")
    @Broken(in = "int keep(", from = "to = counts[sort];", to = "to = 0;")
    @Broken(in = "int keep(", from = "counts[sort]++;", to = "counts[sort] = 2;")
    @Broken(in = "int keep(", from = "int to = at;", to = "int to = 0;")
    static void furtherOneOrInThePlaceOfOne(Due due) {
        for (int sort = 0; sort < 3; sort++) {
            String[] texts = {"ports 3;", "slot;", "match 0 0 0;"};
            due.fresh("texts of sort " + sort);
            due.same("a first one", due.tell(sort, -1, texts[sort]), 0);
            due.same("how many", due.house.count(sort), 1);
            due.same("a second one", due.tell(sort, -1, texts[sort]), 1);
            due.same("how many", due.house.count(sort), 2);
            due.same("in the place of the second", due.tell(sort, 1, ""), 1);
            due.same("how many", due.house.count(sort), 2);
            int[] first = {due.house.crossbar(0, 0), due.house.deed(0, -1, 0), due.house.fact(0, -1, 0)};
            int[] second = {due.house.crossbar(1, 0), due.house.deed(1, -1, 0), due.house.fact(1, -1, 0)};
            due.same("the first", first[sort], new int[] {3, 1, 1}[sort]);
            due.same("the second", second[sort], new int[] {4, 0, 0}[sort]);
            due.same("in the place of the first", due.tell(sort, 0, ""), 0);
        }
    }

    @Says(where = "Promise 4", words = "NONE: a FAULT")
    @Broken(in = "public int text", from = "if (reader.faultSort != 0) {", to = "if (reader.faultSort != 0) {\ntold.keep(sort, at, reader);")
    @Broken(in = "public int text", from = "if (reader.faultSort != 0) {\n            return NONE;", to = "if (reader.faultSort != 0) {\n            return NOT_THERE;")
    static void faultyTextTellsNothing(Due due) {
        due.fresh("text");
        due.same("a first one", due.tell(0, -1, "ports 3;"), 0);
        due.same("a FAULT in its place", due.tell(0, 0, "ports 2;x"), -1);
        due.same("its ports", due.house.crossbar(0, 0), 3);
        due.same("a further one, a FAULT", due.tell(0, -1, "ports 9;"), -1);
        due.same("how many", due.house.count(0), 1);
        due.same("a traffic", due.tell(1, -1, "slot;"), 0);
        due.same("a FAULT in its place", due.tell(1, 0, "slot;slot;x"), -1);
        due.same("its deeds", due.house.deed(0, -1, 0), 1);
    }

    @Says(where = "Promise 4", words = "-2: there is none such")
    @Broken(in = "boolean hasRoom", from = "return has(sort, at);", to = "return has(sort, at) || sort == 0 && at == counts[0];")
    @Broken(in = "boolean hasRoom", from = "return has(sort, at);", to = "return has(sort, at) || sort == 1 && at == counts[1];")
    @Broken(in = "boolean hasRoom", from = "return has(sort, at);", to = "return has(sort, at) || sort == 2 && at == counts[2];")
    @Broken(in = "boolean hasRoom", from = "if (at != NONE)", to = "if (at >= 0)")
    static void noTextInThePlaceOfNone(Due due) {
        for (int sort = 0; sort < 3; sort++) {
            due.fresh("texts of sort " + sort);
            due.same("at 0 of none", due.tell(sort, 0, ""), -2);
            due.same("a first one", due.tell(sort, -1, ""), 0);
            due.same("at 1 of one", due.tell(sort, 1, ""), -2);
            due.same("at -2", due.tell(sort, -2, ""), -2);
            due.same("at least", due.tell(sort, Integer.MIN_VALUE, ""), -2);
            due.same("at greatest", due.tell(sort, Integer.MAX_VALUE, ""), -2);
            due.same("how many", due.house.count(sort), 1);
            due.same("a second one", due.tell(sort, -1, ""), 1);
            due.same("at 2 of two", due.tell(sort, 2, ""), -2);
        }
    }

    @Says(where = "Promise 4", words = "there are as many as may be")
    @Broken(in = "boolean hasRoom", from = "counts[sort] < TEXTS_MOST", to = "counts[sort] <= TEXTS_MOST")
    static void thirdTextIsRefused(Due due) {
        for (int sort = 0; sort < 3; sort++) {
            due.fresh("texts of sort " + sort);
            due.tell(sort, -1, "");
            due.tell(sort, -1, "");
            due.same("a third one", due.tell(sort, -1, ""), -2);
            due.same("how many", due.house.count(sort), 2);
            due.same("in the place of one", due.tell(sort, 1, ""), 1);
        }
    }

    @Says(where = "Promise 4", words = "or no such sort")
    @Broken(in = "boolean hasRoom", from = "return sort >= 0 && ", to = "return sort < 0 || ")
    @Broken(in = "boolean hasRoom", from = "sort < SORTS &&", to = "sort <= SORTS &&")
    @Broken(in = "boolean has(", from = "sort < SORTS &&", to = "sort <= SORTS &&")
    static void noSuchSortIsRefused(Due due) {
        due.fresh("texts of no sort");
        for (int sort : new int[] {3, -1, -2, Integer.MAX_VALUE, Integer.MIN_VALUE}) {
            due.same("a further one of " + sort, due.tell(sort, -1, ""), -2);
            due.same("in the place of one of " + sort, due.tell(sort, 0, ""), -2);
        }
    }

    @Says(where = "Promise 4", words = "(the tape is empty then, too; no text is read, FAULT 0)")
    @Broken(in = "public int text", from = "if (!told.hasRoom(sort, at)) {", to = "if (!told.hasRoom(sort, at)) {\ntold.length = length;")
    @Broken(in = "public int text", from = "told.faultSort = 0;", to = "")
    @Broken(in = "public int text", from = "told.faultPlace = NONE;", to = "")
    @Broken(in = "public int text", from = "if (!told.hasRoom(sort, at)) {",
        to = "if (!told.hasRoom(sort, at)) {\nreader.read(told.tape, length, 0);\ntold.faultSort = reader.faultSort;")
    static void refusedTextIsNotRead(Due due) {
        int[][] refused = {{0, 0}, {3, -1}, {-1, 0}, {1, -1}};
        for (int[] call : refused) {
            due.fresh("text(" + call[0] + ", " + call[1] + ")");
            due.tell(1, -1, "");
            due.tell(1, -1, "");
            due.same("a FAULT", due.tell(2, -1, " x"), -1);
            due.same("refused", due.tell(call[0], call[1], "x"), -2);
            due.same("the tape", due.house.end(1), -1);
            due.same("fault(0)", due.house.fault(0), 0);
            due.same("fault(1)", due.house.fault(1), -1);
        }
    }

    @Says(where = "Promise 5", words = "Of the latest text()")
    @Broken(in = "void read(", from = "faultSort = 0;", to = "")
    @Broken(in = "public int text", from = "told.faultSort = reader.faultSort;", to = "told.faultSort = Math.max(told.faultSort, reader.faultSort % 2);")
    static void faultIsOfTheLatestText(Due due) {
        due.fresh("fault");
        due.tell(0, -1, "ports 0;");
        due.same("of the first", due.house.fault(0), 2);
        due.tell(0, -1, "port 0;");
        due.same("of the second", due.house.fault(0), 1);
        due.same("its place", due.house.fault(1), 0);
        due.tell(0, -1, "ports 3;");
        due.same("of the third", due.house.fault(0), 0);
        due.same("its place", due.house.fault(1), -1);
    }

    @Says(where = "Promise 5", words = "what 0: the FAULT, 0 without")
    @Broken(in = "class Told", from = "int faultSort = 0;", to = "int faultSort = NONE;")
    static void withoutATextThereIsNoFault(Due due) {
        due.fresh("fault");
        due.same("fault(0)", due.house.fault(0), 0);
    }

    @Says(where = "Promise 5", words = "1: its place, NONE without")
    @Broken(in = "class Told", from = "int faultPlace = NONE;", to = "int faultPlace = 0;")
    @Broken(in = "void read(", from = "faultPlace = NONE;", to = "faultPlace = 0;")
    static void withoutAFaultThereIsNoPlace(Due due) {
        due.fresh("fault");
        due.same("fault(1) of none", due.house.fault(1), -1);
        due.tell(0, -1, "ports 3;");
        due.same("fault(1) of a right text", due.house.fault(1), -1);
        due.tell(0, -1, "x");
        due.same("fault(1) of a wrong text", due.house.fault(1), 0);
    }

    @Says(where = "Promise 5", words = "NONE for another what")
    @Broken(in = "public int fault", from = "what == 1 ?", to = "what >= 1 ?")
    @Broken(in = "public int fault", from = "what == 0", to = "what <= 0")
    static void noOtherWhatOfAFault(Due due) {
        due.fresh("fault");
        due.tell(0, -1, "ports 3;x");
        due.same("fault(1)", due.house.fault(1), 8);
        for (int what : new int[] {2, -1, -2, Integer.MAX_VALUE, Integer.MIN_VALUE}) {
            due.same("fault(" + what + ")", due.house.fault(what), -1);
        }
    }

    @Says(where = "Promise 6", words = "Of a CROSSBAR, what 0: PORTS, 1: ROUNDS, 2: DEPTH, 3: POINTER")
    @Broken(in = "int bar(int crossbar", from = "crossbar * BAR_SIZE + what", to = "crossbar * BAR_SIZE + (what ^ 1)")
    @Broken(in = "int bar(int crossbar", from = "crossbar * BAR_SIZE + what", to = "what")
    static void crossbarsAreToldByTheirWhats(Due due) {
        due.fresh("crossbar");
        due.tell(0, -1, "ports 6;rounds 3;depth 8;pointer 5;");
        due.tell(0, -1, "ports 1;rounds 2;depth 3;pointer 4;");
        int[][] want = {{6, 3, 8, 5}, {1, 2, 3, 4}};
        for (int crossbar = 0; crossbar < 2; crossbar++) {
            for (int what = 0; what < 4; what++) {
                due.same("crossbar(" + crossbar + ", " + what + ")", due.house.crossbar(crossbar, what), want[crossbar][what]);
            }
        }
    }

    @Says(where = "Promise 6", words = "NONE: there is none such")
    @Broken(in = "public int crossbar", from = HAS_BAR, to = "crossbar < 0 || crossbar >= TEXTS_MOST")
    @Broken(in = "public int crossbar", from = HAS_BAR, to = "crossbar >= told.counts[0]")
    @Broken(in = "public int crossbar", from = HAS_BAR, to = "crossbar < 0 || crossbar > told.counts[0]")
    static void noSuchCrossbar(Due due) {
        due.fresh("crossbar");
        due.same("0 of none", due.house.crossbar(0, 0), -1);
        due.tell(0, -1, "");
        due.same("1 of one", due.house.crossbar(1, 0), -1);
        due.tell(0, -1, "");
        for (int crossbar : new int[] {2, -1, -2, Integer.MAX_VALUE, Integer.MIN_VALUE}) {
            due.same(crossbar + " of two", due.house.crossbar(crossbar, 0), -1);
        }
    }

    @Says(where = "Promise 6", words = "or for another what")
    @Broken(in = "public int crossbar", from = "what >= BAR_SIZE", to = "what > BAR_SIZE")
    @Broken(in = "public int crossbar", from = "what < 0 ||", to = "what < -1 ||")
    static void noOtherWhatOfACrossbar(Due due) {
        due.fresh("ports 3;pointer 2;", "");
        due.tell(0, -1, "ports 5;");
        for (int what : new int[] {4, -1, -2, Integer.MAX_VALUE, Integer.MIN_VALUE}) {
            due.same("what " + what + " of 0", due.house.crossbar(0, what), -1);
            due.same("what " + what + " of 1", due.house.crossbar(1, what), -1);
        }
    }

    @Says(where = "Promise 7", words = "How many DEEDS (k NONE, what 0)")
    @Broken(in = "int tellLine", from = "return what == 0 ? lines", to = "return what == 0 ? Math.max(sort == TRAFFICS ? 1 : 0, lines)")
    static void howManyDeedsThereAre(Due due) {
        due.fresh("deed");
        due.tell(1, -1, "");
        due.tell(1, -1, "slot;".repeat(40));
        due.same("of an empty one", due.house.deed(0, -1, 0), 0);
        due.same("of a full one", due.house.deed(1, -1, 0), 40);
    }

    @Says(where = "Promise 7", words = "of DEED k, what 0: 0 slot, 1 idle, 2 cell, 3 fan, 4 burst")
    @Broken(in = "void keepLine", from = "word - WORD_SLOT", to = "word - WORD_SLOT + 1")
    @Broken(in = "int line(int sort", from = "+ k) * LINE_SIZE", to = "+ k / 2) * LINE_SIZE")
    static void deedsAreToldByTheirSort(Due due) {
        due.fresh("deed");
        due.tell(1, -1, "slot;idle 1;cell 1 1;fan 1 1;burst 1 1;");
        for (int k = 0; k < 5; k++) {
            due.same("deed(0, " + k + ", 0)", due.house.deed(0, k, 0), k);
        }
    }

    @Says(where = "Promise 7", words = "1, 2: its numbers (NONE without)")
    @Broken(in = "boolean readLine", from = "numbers[j] = NONE;", to = "numbers[j] = 0;")
    @Broken(in = "boolean readLine", from = "numbers[j] = NONE;", to = "")
    static void withoutNumbersTheyAreNone(Due due) {
        due.fresh("deed");
        due.tell(1, -1, "cell 3 4;slot;idle 2;fan 5 6;");
        int[][] want = {{2, 3, 4}, {0, -1, -1}, {1, 2, -1}, {3, 5, 6}};
        for (int k = 0; k < 4; k++) {
            for (int what = 0; what < 3; what++) {
                due.same("deed(0, " + k + ", " + what + ")", due.house.deed(0, k, what), want[k][what]);
            }
        }
    }

    @Says(where = "Promise 7", words = "-2: there is none such (of either)")
    @Broken(in = "int tellLine", from = "!told.has(sort, at)", to = "sort == TRAFFICS ? at < 0 || at >= TEXTS_MOST : !told.has(sort, at)")
    @Broken(in = "int tellLine", from = "!told.has(sort, at)", to = "sort == TRAFFICS ? at >= told.counts[sort] : !told.has(sort, at)")
    static void noDeedsOfNoTraffic(Due due) {
        due.fresh("deed");
        due.same("0 of none", due.house.deed(0, -1, 0), -2);
        due.tell(1, -1, "slot;");
        due.same("1 of one", due.house.deed(1, -1, 0), -2);
        for (int traffic : new int[] {2, -1, -2, Integer.MAX_VALUE, Integer.MIN_VALUE}) {
            due.same("traffic " + traffic, due.house.deed(traffic, 0, 0), -2);
        }
    }

    @Says(where = "Promise 7", words = "-2: there is none such (of either)")
    @Broken(in = "int tellLine", from = "k >= lines", to = "k >= lines + (sort == TRAFFICS ? 1 : 0)")
    @Broken(in = "int tellLine", from = "k < 0 ||", to = "k < (sort == TRAFFICS ? -2 : 0) ||")
    static void noSuchDeed(Due due) {
        due.fresh("deed");
        due.tell(1, -1, "slot;slot;");
        due.tell(1, -1, "slot;slot;");
        for (int k : new int[] {2, 40, -2, Integer.MAX_VALUE, Integer.MIN_VALUE}) {
            due.same("deed " + k + " of 0", due.house.deed(0, k, 0), -2);
            due.same("deed " + k + " of 1", due.house.deed(1, k, 0), -2);
        }
        due.tell(1, 0, "");
        due.same("deed 0 of none", due.house.deed(0, 0, 0), -2);
    }

    @Says(where = "Promise 7", words = "or for another what")
    @Broken(in = "public int deed", from = "what, 2)", to = "what, 3)")
    @Broken(in = "int tellLine", from = "what < 0 ||", to = "what < (sort == TRAFFICS ? -1 : 0) ||")
    @Broken(in = "int tellLine", from = "return what == 0 ? lines", to = "return what == 0 || sort == TRAFFICS ? lines")
    static void noOtherWhatOfADeed(Due due) {
        due.fresh("deed");
        due.tell(1, -1, "slot;cell 1 1;");
        for (int what : new int[] {3, 4, -1, -2, Integer.MAX_VALUE, Integer.MIN_VALUE}) {
            due.same("what " + what, due.house.deed(0, 1, what), -2);
        }
        for (int what : new int[] {1, 2, 3, -1}) {
            due.same("how many, what " + what, due.house.deed(0, -1, what), -2);
        }
    }

    @Says(where = "Promise 17", words = "How many FACTS (k NONE, what 0)")
    @Broken(in = "int tellLine", from = "return what == 0 ? lines", to = "return what == 0 ? Math.max(sort == LOGS ? 1 : 0, lines)")
    static void howManyFactsThereAre(Due due) {
        due.fresh("fact");
        due.tell(2, -1, "");
        due.tell(2, -1, "match 0 0 0;".repeat(8));
        due.same("of an empty one", due.house.fact(0, -1, 0), 0);
        due.same("of a full one", due.house.fact(1, -1, 0), 8);
    }

    @Says(where = "Promise 17", words = "of FACT k, what 0: 1 match, 0 apart, 1: the SLOT, 2: the INPUT, 3: the OUTPUT")
    @Broken(in = "void keepLine", from = "WORD_APART - word", to = "1 - WORD_APART + word")
    @Broken(in = "public int fact", from = "what, 3)", to = "what, 2)")
    static void factsAreToldAsTheyWere(Due due) {
        due.fresh("fact");
        due.tell(2, -1, "match 60 5 4;apart 0 1 2;");
        int[][] want = {{1, 60, 5, 4}, {0, 0, 1, 2}};
        for (int k = 0; k < 2; k++) {
            for (int what = 0; what < 4; what++) {
                due.same("fact(0, " + k + ", " + what + ")", due.house.fact(0, k, what), want[k][what]);
            }
        }
    }

    @Says(where = "Promise 17", words = "-2: there is none such (of either)")
    @Broken(in = "int tellLine", from = "!told.has(sort, at)", to = "sort == LOGS ? at < 0 || at >= TEXTS_MOST : !told.has(sort, at)")
    @Broken(in = "int tellLine", from = "!told.has(sort, at)", to = "sort == LOGS ? at >= told.counts[sort] : !told.has(sort, at)")
    @Broken(in = "int tellLine", from = "k >= lines", to = "k >= lines + (sort == LOGS ? 1 : 0)")
    @Broken(in = "int tellLine", from = "k < 0 ||", to = "k < (sort == LOGS ? -2 : 0) ||")
    static void noSuchLogOrFact(Due due) {
        due.fresh("fact");
        due.same("0 of none", due.house.fact(0, -1, 0), -2);
        due.tell(2, -1, "match 0 0 0;");
        due.same("1 of one", due.house.fact(1, -1, 0), -2);
        for (int wrong : new int[] {2, -1, -2, Integer.MAX_VALUE, Integer.MIN_VALUE}) {
            due.same("log " + wrong, due.house.fact(wrong, 0, 0), -2);
        }
        for (int k : new int[] {1, 8, -2, Integer.MAX_VALUE, Integer.MIN_VALUE}) {
            due.same("fact " + k, due.house.fact(0, k, 0), -2);
        }
    }

    @Says(where = "Promise 17", words = "or for another what")
    @Broken(in = "public int fact", from = "what, 3)", to = "what, 4)")
    @Broken(in = "int tellLine", from = "what < 0 ||", to = "what < (sort == LOGS ? -1 : 0) ||")
    @Broken(in = "int tellLine", from = "return what == 0 ? lines", to = "return what == 0 || sort == LOGS ? lines")
    static void noOtherWhatOfAFact(Due due) {
        due.fresh("fact");
        due.tell(2, -1, "match 0 0 0;match 0 0 0;");
        for (int what : new int[] {4, 5, -1, -2, Integer.MAX_VALUE, Integer.MIN_VALUE}) {
            due.same("what " + what, due.house.fact(0, 0, what), -2);
            due.same("what " + what, due.house.fact(0, 1, what), -2);
        }
        for (int what : new int[] {1, 2, 3, 4, -1}) {
            due.same("how many, what " + what, due.house.fact(0, -1, what), -2);
        }
    }

    @Says(where = "Promise 20", words = "How many there are of a sort")
    @Broken(in = "public int count", from = "told.counts[sort]", to = "told.counts[sort == 2 ? 1 : sort]")
    static void howManyThereAreOfASort(Due due) {
        due.fresh("count");
        due.tell(1, -1, "");
        due.tell(2, -1, "");
        due.tell(2, -1, "");
        for (int sort = 0; sort < 3; sort++) {
            due.same("count(" + sort + ")", due.house.count(sort), sort);
        }
    }

    @Says(where = "Promise 20", words = "-2 for another one")
    @Broken(in = "public int count", from = "sort >= SORTS", to = "sort > SORTS")
    @Broken(in = "public int count", from = "sort < 0 ||", to = "sort < -1 ||")
    @Broken(in = "public int count", from = "NOT_THERE", to = "NONE")
    static void noSuchSortIsNotCounted(Due due) {
        due.fresh("count");
        for (int sort : new int[] {3, -1, -2, Integer.MAX_VALUE, Integer.MIN_VALUE}) {
            due.same("count(" + sort + ")", due.house.count(sort), -2);
        }
    }

    @Says(where = "Promise 21", words = "as it is now: true")
    @Broken(in = "public boolean image", from = "imaged[k] = true;\n        return true;", to = "boolean was = imaged[k];\nimaged[k] = true;\nreturn !was;")
    @Broken(in = "public boolean image", from = "imaged[k] = true;", to = "imaged[k] = told.counts[0] > 0;")
    static void imageOfNothingIsOneToo(Due due) {
        due.fresh("image");
        due.same("image(0)", due.house.image(0), true);
        due.same("image(0) once more", due.house.image(0), true);
        due.same("again(0)", due.house.again(0), true);
    }

    @Says(where = "Promise 21", words = "Image k (0 .. 2)")
    @Broken(from = "IMAGES = 3", to = "IMAGES = 2")
    @Broken(in = "public boolean image", from = "k < 0 ||", to = "k <= 0 ||")
    static void thereAreThreeImages(Due due) {
        due.fresh("image");
        for (int k = 0; k < 3; k++) {
            due.same("image(" + k + ")", due.house.image(k), true);
        }
    }

    @Says(where = "Promise 21", words = "false for another k")
    @Broken(from = "IMAGES = 3", to = "IMAGES = 4")
    @Broken(in = "public boolean image", from = "k < 0 ||", to = "k < -1 ||")
    static void thereIsNoOtherImage(Due due) {
        due.fresh("image");
        for (int k : new int[] {3, 4, -1, -2, Integer.MAX_VALUE, Integer.MIN_VALUE}) {
            due.same("image(" + k + ")", due.house.image(k), false);
        }
    }

    @Says(where = "Promise 21", words = "all that is told (the tape, the FAULT, too), as it is now")
    @Broken(in = "void copy(Told", from = "length = other.length;", to = "")
    @Broken(in = "void copy(Told", from = "faultSort = other.faultSort;", to = "")
    @Broken(in = "void copy(Told", from = "faultPlace = other.faultPlace;", to = "")
    @Broken(in = "void copy(Told", from = "System.arraycopy(other.tape, 0, tape, 0, TAPE_MOST);", to = "")
    @Broken(in = "void copy(Told", from = "System.arraycopy(other.counts, 0, counts, 0, SORTS);", to = "")
    @Broken(in = "void copy(Told", from = "System.arraycopy(other.bars, 0, bars, 0, bars.length);", to = "")
    @Broken(in = "void copy(Told", from = "System.arraycopy(other.lines, 0, lines, 0, lines.length);", to = "")
    @Broken(in = "void copy(Told", from = "System.arraycopy(other.lineCounts, 0, lineCounts, 0, PLACES);", to = "")
    @Broken(in = "public boolean image", from = "images[k].copy(told);", to = "images[k] = told;")
    static void imageIsAllThatIsTold(Due due) {
        due.fresh("ports 3;", "slot;idle 2;", "apart 1 2 3;");
        due.same("a FAULT", due.tell(0, -1, "ports 7;"), -1);
        due.tape("pointer 4;");
        due.same("image(1)", due.house.image(1), true);
        due.tape("pointer 1;ports 5;");
        due.same("another crossbar 0", due.house.text(0, 0), 0);
        due.tell(1, 0, "cell 0 0;");
        due.tell(2, 0, "match 3 2 1;match 0 0 0;");
        due.tell(2, -1, "");
        due.same("again(1)", due.house.again(1), true);
        due.same("fault(0)", due.house.fault(0), 2);
        due.same("fault(1)", due.house.fault(1), 6);
        due.same("crossbar 0", due.house.crossbar(0, 0), 3);
        due.same("logs", due.house.count(2), 1);
        due.same("deeds", due.house.deed(0, -1, 0), 2);
        due.same("the idle", due.house.deed(0, 1, 1), 2);
        due.same("facts", due.house.fact(0, -1, 0), 1);
        due.same("the fact", due.house.fact(0, 0, 3), 3);
        due.same("the tape", due.house.end(11), -1);
        due.same("the tape", due.house.end(10), 10);
        due.same("its text", due.house.text(0, -1), 1);
        due.same("its pointer", due.house.crossbar(1, 3), 4);
    }

    @Says(where = "Promise 21", words = "as it is now")
    @Broken(in = "public boolean image", from = "images[k].copy(told);", to = "if (!imaged[k]) {\nimages[k].copy(told);\n}")
    static void laterImageStrikes(Due due) {
        due.fresh("image");
        due.house.image(0);
        due.tell(0, -1, "");
        due.same("image(0) once more", due.house.image(0), true);
        due.tell(0, -1, "");
        due.same("again(0)", due.house.again(0), true);
        due.same("crossbars", due.house.count(0), 1);
    }

    @Says(where = "Promise 22", words = "All that is as image k has it (other images stay): true")
    @Broken(in = "public boolean again", from = "told.copy(images[k]);", to = "told.copy(images[k]);\nimaged[k == 0 ? 1 : 0] = false;")
    @Broken(in = "public boolean again", from = "told.copy(images[k]);", to = "told.copy(images[k]);\nimages[k == 0 ? 1 : 0].copy(told);")
    @Broken(in = "public boolean again", from = "told.copy(images[k]);", to = "told.copy(images[k]);\nimaged[k] = false;")
    static void otherImagesStay(Due due) {
        due.fresh("again");
        due.house.image(0);
        due.tell(0, -1, "");
        due.house.image(1);
        due.tell(0, -1, "");
        due.house.image(2);
        for (int k : new int[] {0, 1, 2, 2, 1, 0, 0}) {
            due.same("again(" + k + ")", due.house.again(k), true);
            due.same("crossbars", due.house.count(0), k);
        }
    }

    @Says(where = "Promise 22", words = "All that is as image k has it")
    @Broken(in = "public boolean again", from = "told.copy(images[k]);", to = "Told was = told;\nwas.counts[0] = images[k].counts[0];")
    @Broken(in = "public boolean again", from = "told.copy(images[k]);", to = "told.copy(images[0]);")
    static void imageStaysAsItWasBehindAgain(Due due) {
        due.fresh("ports 3;", "");
        due.house.image(2);
        due.tell(0, 0, "ports 5;");
        due.house.again(2);
        due.tell(0, 0, "ports 6;");
        due.same("again(2)", due.house.again(2), true);
        due.same("ports", due.house.crossbar(0, 0), 3);
    }

    @Says(where = "Promise 22", words = "false if there is none such")
    @Broken(in = "public boolean again", from = " || !imaged[k]", to = "")
    @Broken(in = "public boolean again", from = "k < 0 ||", to = "k < -1 ||")
    @Broken(in = "public boolean again", from = "k >= IMAGES", to = "k > IMAGES")
    static void noSuchImageNothingComesAgain(Due due) {
        due.fresh("ports 3;", "");
        due.house.image(1);
        for (int k : new int[] {0, 2, 3, -1, -2, Integer.MAX_VALUE, Integer.MIN_VALUE}) {
            due.same("again(" + k + ")", due.house.again(k), false);
            due.same("ports", due.house.crossbar(0, 0), 3);
        }
    }
}
