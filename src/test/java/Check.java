/** What all tests of the project share: answers held against those due, and a town told as text. */
final class Check {
    private int wrong;
    private int seen;

    void due(String what, long got, long want) {
        seen++;
        if (got != want) {
            wrong++;
            if (wrong <= 20) System.out.println(what + " answered " + got + ", due is " + want);
        }
    }

    void due(String what, boolean got, boolean want) {
        due(what, got ? 1 : 0, want ? 1 : 0);
    }

    void end(String name) {
        System.out.println(name + ": " + (seen - wrong) + " of " + seen + " as due");
        if (wrong != 0 || seen == 0) System.exit(1);
    }

    static int[] feeds(String text) {
        int[] fours = new int[(text.length() + 19) / 20 * 5];
        for (int i = 0; i < text.length(); i++) fours[i / 4] |= text.charAt(i) << 24 - i % 4 * 8;
        return fours;
    }

    static int tell(HingeTown x, String text) {
        return tell(x, text, "");
    }

    /** What stands behind the text on the tape is cut off again, so that it must not count. */
    static int tell(HingeTown x, String text, String behind) {
        x.end(0);
        int[] f = feeds(text.length() + behind.length() <= 1600 ? text + behind : text);
        for (int i = 0; i < f.length; i += 5) x.feed(f[i], f[i + 1], f[i + 2], f[i + 3], f[i + 4]);
        x.end(text.length());
        return x.town();
    }

    static HingeTown told(String text) {
        HingeTown x = new HingeTown();
        if (tell(x, text) < 0) throw new IllegalStateException("fault " + x.fault(0) + " at " + x.fault(1) + ": " + text);
        return x;
    }
}
