/** A house, texts fed to it as whole strings, and a count of the answers that are not as due. */
final class Due {
    static final int NONE = CrossbarHouse.NONE;
    /** A TRAFFIC of which something is left wherever the class could forget to begin anew. */
    private static final String LONG_BEFORE = "fan 0 3;fan 1 63;cell 2 0;slot;"
        + "burst 0 63;burst 1 63;burst 2 63;burst 3 63;burst 4 63;burst 5 63;idle 9;cell 0 0;cell 1 0;cell 2 0;cell 5 0;slot;"
        + "fan 0 63;fan 1 63;fan 2 63;burst 3 63;burst 4 63;burst 5 63;slot;cell 5 5;fan 4 63;slot;burst 5 63;";

    private final String test;
    private final boolean isLoud;
    CrossbarHouse house = new CrossbarHouse();
    private String about = "";
    private int wrong = 0;

    Due(String test) {
        this(test, true);
    }

    Due(String test, boolean isLoud) {
        this.test = test;
        this.isLoud = isLoud;
    }

    void fresh(String what) {
        house = new CrossbarHouse();
        about = what;
    }

    void same(String call, long got, long want) {
        if (got != want) {
            wrong++;
            if (isLoud) {
                System.out.println(test + ", " + about + ": " + call + " answered " + got + ", due is " + want);
            }
        }
    }

    void same(String call, boolean got, boolean want) {
        same(call, got ? 1 : 0, want ? 1 : 0);
    }

    int wrong() {
        return wrong;
    }

    /** The tape is the text, whatever it was. */
    void tape(String text) {
        house.end(0);
        for (int k = 0; k < text.length(); k += 20) {
            int[] v = new int[5];
            for (int j = 0; j < 20; j++) {
                v[j / 4] = v[j / 4] << 8 | (k + j < text.length() ? text.charAt(k + j) & 255 : 0);
            }
            house.feed(v[0], v[1], v[2], v[3], v[4]);
        }
        same("end of '" + text + "'", house.end(text.length()), text.length());
    }

    int tell(int sort, int at, String text) {
        tape(text);
        return house.text(sort, at);
    }

    /** A house with a CROSSBAR 0 and a TRAFFIC 0; others were in their places before, and were asked about. */
    void fresh(String bar, String traffic) {
        fresh(bar + " | " + traffic);
        same("crossbar before", tell(0, NONE, "ports 6;rounds 1;depth 2;pointer 5;"), 0);
        same("traffic before", tell(1, NONE, LONG_BEFORE), 0);
        house.rhythm(0, 3);
        house.full(0, 3, 3);
        house.mimic(0, 0, NONE, 2);
        house.flow(0, 0, NONE, 0);
        house.judge(0, 0, house.stop(0, 0), 15);
        same("text of crossbar", tell(0, 0, bar), 0);
        same("text of traffic", tell(1, 0, traffic), 0);
    }

    /** The same with a LOG 0. */
    void fresh(String bar, String traffic, String log) {
        fresh(bar, traffic);
        same("log before", tell(2, NONE, ""), 0);
        house.fits(0, 0, 0, 3);
        same("text of log", tell(2, 0, log), 0);
    }

    /** A text to a fresh house, with its FAULT (0 for none) and the FAULT's place. */
    void faulty(int sort, String text, int fault, int place) {
        fresh("fault of '" + text + "'");
        same("text", tell(sort, NONE, text), fault == 0 ? 0 : NONE);
        same("fault(0)", house.fault(0), fault);
        same("fault(1)", house.fault(1), place);
        same("count", house.count(sort), fault == 0 ? 1 : 0);
    }

    void right(int sort, String text) {
        faulty(sort, text, 0, NONE);
    }

    void stops(String bar, String traffic, int stop) {
        fresh(bar, traffic);
        same("stop", house.stop(0, 0), stop);
    }

    void state(int n, int... whatsAndAnswers) {
        for (int k = 0; k < whatsAndAnswers.length; k += 2) {
            int what = whatsAndAnswers[k];
            same("state(0, 0, " + n + ", " + what + ")", house.state(0, 0, n, what), whatsAndAnswers[k + 1]);
        }
    }

    void after(int... whatsAndAnswers) {
        for (int k = 0; k < whatsAndAnswers.length; k += 2) {
            int what = whatsAndAnswers[k];
            same("after(0, 0, " + what + ")", house.after(0, 0, what), whatsAndAnswers[k + 1]);
        }
    }

    void judge(int n, int... whatsAndAnswers) {
        for (int k = 0; k < whatsAndAnswers.length; k += 2) {
            int what = whatsAndAnswers[k];
            same("judge(0, 0, " + n + ", " + what + ")", house.judge(0, 0, n, what), whatsAndAnswers[k + 1]);
        }
    }

    void fits(int... whatsAndAnswers) {
        for (int k = 0; k < whatsAndAnswers.length; k += 2) {
            int what = whatsAndAnswers[k];
            same("fits(0, 0, 0, " + what + ")", house.fits(0, 0, 0, what), whatsAndAnswers[k + 1]);
        }
    }

    void cell(int k, int... answers) {
        for (int what = 0; what < answers.length; what++) {
            same("cell(0, 0, " + k + ", " + what + ")", house.cell(0, 0, k, what), answers[what]);
        }
    }

    void mimic(int k, int... answers) {
        for (int what = 0; what < answers.length; what++) {
            same("mimic(0, 0, " + k + ", " + what + ")", house.mimic(0, 0, k, what), answers[what]);
        }
    }

    void flow(int k, int... answers) {
        for (int what = 0; what < answers.length; what++) {
            same("flow(0, 0, " + k + ", " + what + ")", house.flow(0, 0, k, what), answers[what]);
        }
    }

    void full(int slot, int... inputs) {
        for (int o = 0; o < inputs.length; o++) {
            same("full(0, " + slot + ", " + o + ")", house.full(0, slot, o), inputs[o]);
        }
    }

    void rhythm(String bar, int... answers) {
        fresh(bar, "");
        for (int what = 0; what < answers.length; what++) {
            same("rhythm(0, " + what + ")", house.rhythm(0, what), answers[what]);
        }
    }

    void end() {
        System.out.println(test + (wrong == 0 ? ": all as due" : ": " + wrong + " answers are not as due"));
        if (wrong != 0) {
            System.exit(1);
        }
    }
}
