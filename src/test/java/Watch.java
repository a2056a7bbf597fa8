/** Holds that a call which is refused, or throws, leaves all that can be asked for as it was. */
final class Watch {
    private static final int NOTHING = -1;
    private static final int STATUS = 13;

    private final Checks check;
    private final RibLoom x;

    Watch(Checks check, RibLoom x) {
        this.check = check;
        this.x = x;
    }

    /** The call answers NONE, and of all else only STATUS (0 to 2) is one more. */
    void refused(int status, String call, Checks.Call made) {
        String before = all(STATUS + status);
        int refusals = x.count(STATUS + status);
        check.due(call, RibLoom.NONE, made.answer());
        check.due("STATUS " + status + " behind " + call, refusals + 1, x.count(STATUS + status));
        same(call, before, all(STATUS + status));
    }

    /** The call answers this, and changes nothing at all. */
    void answers(int want, String call, Checks.Call made) {
        String before = all(NOTHING);
        check.due(call, want, made.answer());
        same(call, before, all(NOTHING));
    }

    void none(String call, Checks.Call made) {
        String before = all(NOTHING);
        check.none(call, made);
        same(call, before, all(NOTHING));
    }

    void bad(String call, Checks.Call made) {
        String before = all(NOTHING);
        check.bad(call, made);
        same(call, before, all(NOTHING));
    }

    private void same(String call, String before, String behind) {
        check.due("all stays behind " + call + ": " + before + " and then " + behind, 1, before.equals(behind) ? 1 : 0);
    }

    /** All that can be asked for without going ahead, but for one count. */
    String all(int leftOut) {
        StringBuilder s = new StringBuilder();
        for (int what = 0; what < 16; what++) {
            s.append(what == leftOut ? "-" : x.count(what)).append(' ');
        }
        s.append("fault ").append(x.fault()).append(" skills ").append(x.skill(0)).append(' ').append(x.skill(1));
        for (int r = 0; r < x.count(0); r++) {
            s.append(" rib ").append(x.rib(r, 0)).append(' ').append(x.rib(r, 1)).append(' ').append(x.rib(r, 2));
        }
        for (int v = 0; v < x.count(1); v++) {
            s.append(" verse ").append(x.verse(v, 0));
        }
        for (int i = 0; i < x.count(6); i++) {
            s.append(" sail ").append(x.sail(i, 0)).append(' ').append(x.sail(i, 1));
        }
        s.append(" strong ").append(x.strong(0)).append(' ').append(x.strong(1)).append(' ').append(x.strong(2));
        return s.toString();
    }
}
