/** What the tests share: texts fed as the class wants them, answers compared, wrong ones counted. */
final class Check {
    private final String name;
    private int calls = 0;
    private int wrong = 0;

    Check(String name) {
        this.name = name;
    }

    void due(String call, long got, long want) {
        calls++;
        if (got != want) {
            wrong++;
            if (wrong <= 50) {
                System.out.println(name + ": " + call + " answered " + got + ", due is " + want);
            }
        }
    }

    void holds(String what, boolean so) {
        due(what, so ? 1 : 0, 1);
    }

    void close() {
        System.out.println(name + ": " + calls + " answers, " + wrong + " wrong");
        if (wrong != 0) {
            System.exit(1);
        }
    }

    /** Puts the text, its signs as bytes, behind the tape, and cuts off what fills the last feed. */
    static int feed(WayMayor x, String text) {
        int had = x.count(13);
        for (int i = 0; i < text.length(); i += 20) {
            int[] five = new int[5];
            for (int k = 0; k < 20; k++) {
                int sign = i + k < text.length() ? text.charAt(i + k) & 255 : 0;
                five[k / 4] = five[k / 4] << 8 | sign;
            }
            if (x.feed(five[0], five[1], five[2], five[3], five[4]) == WayMayor.NONE) {
                return WayMayor.NONE;
            }
        }
        return x.end(had + text.length());
    }

    static int town(WayMayor x, String text) {
        x.end(0);
        feed(x, text);
        return x.town();
    }

    static int rule(WayMayor x, String text) {
        x.end(0);
        feed(x, text);
        return x.rule();
    }

    static WayMayor inTown(String text) {
        WayMayor x = new WayMayor();
        town(x, text);
        return x;
    }
}
