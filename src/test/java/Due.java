/** A house, texts fed to it as whole strings, and a count of the answers that are not as due. */
final class Due {
    private final String test;
    CrossbarHouse house = new CrossbarHouse();
    private String about = "";
    private int wrong = 0;

    Due(String test) {
        this.test = test;
    }

    void fresh(String what) {
        house = new CrossbarHouse();
        about = what;
    }

    void same(String call, long got, long want) {
        if (got != want) {
            wrong++;
            System.out.println(test + ", " + about + ": " + call + " answered " + got + ", due is " + want);
        }
    }

    void same(String call, boolean got, boolean want) {
        same(call, got ? 1 : 0, want ? 1 : 0);
    }

    /** The tape is the text, whatever it was. */
    void tape(String text) {
        house.end(0);
        for (int k = 0; k < text.length(); k += 20) {
            int[] v = new int[5];
            for (int j = 0; j < 20; j++) {
                v[j / 4] = v[j / 4] << 8 | (k + j < text.length() ? text.charAt(k + j) & 255 : 0);
            }
            house.feed(v[0], v[1], v[2], v[3], v[4]);
        }
        same("end of '" + text + "'", house.end(text.length()), text.length());
    }

    int tell(int sort, int at, String text) {
        tape(text);
        return house.text(sort, at);
    }

    /** A fresh house with a CROSSBAR 0 and a TRAFFIC 0. */
    void fresh(String bar, String traffic) {
        fresh(bar + " | " + traffic);
        same("text of crossbar", tell(0, CrossbarHouse.NONE, bar), 0);
        same("text of traffic", tell(1, CrossbarHouse.NONE, traffic), 0);
    }

    void end() {
        System.out.println(test + (wrong == 0 ? ": all as due" : ": " + wrong + " answers are not as due"));
        if (wrong != 0) {
            System.exit(1);
        }
    }
}
