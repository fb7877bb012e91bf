/** Promises 17 and 18: the fewest endings changed, and the mend that is kept. */
public final class MendTest {
    public static void main(String[] args) {
        fewest();
        dreams();
        leastBits();
        firstRound();
        kept();
        limit();
        Check.end();
    }

    private static void mend(EndingTown x, int changed, int... hows) {
        Check.is("mend()", x.mend(), changed);
        for (int i = 0; i < hows.length; i++) {
            Check.is("mended(" + i + ")", x.mended(i), hows[i]);
        }
        Check.none("mended behind the last", () -> x.mended(hows.length));
        Check.none("mended(-1)", () -> x.mended(-1));
    }

    private static void fewest() {
        EndingTown x = Check.of("stem a;places 2;near 0 1;thing 0 1 3 loud;person;person;person;");
        x.say(0, 5, 0, 2, false);
        x.say(1, 5, 0, 2, false);
        x.say(2, 5, 0, 2, false);
        Check.is("wrong ahead of it", x.wrong(0), 7);
        mend(x, 1, 1, 2, 2);
        Check.is("the sayings stay as they were", x.wrong(0), 7);
        Check.is("rings, too", x.wrong(1), 7);
        x.say(2, 2, 0, 2, false);
        mend(x, 2, 1, 2, 2, 4);
        x.say(1, 5, 0, 0, false);
        mend(x, 2, 2, 2, 2, 4, 1);
    }

    /** A dream holds, but is changed where others can lean on it then. */
    private static void dreams() {
        EndingTown x = Check.of("stem a;places 2;thing 0 1 3;person;person;person;at 0 2 1;at 0 4 0;");
        x.say(0, 5, 0, 4, false);
        x.say(1, 5, 0, 2, false);
        x.say(2, 5, 0, 2, false);
        mend(x, 1, 0, 2, 2);
        x.unsay();
        mend(x, 1, 0, 2);
        x.unsay();
        mend(x, 0, 4);
    }

    private static void leastBits() {
        EndingTown x = Check.of("stem a;places 1;thing 0 0 3;person;person;person;person;");
        x.say(3, 5, 0, 2, false);
        x.say(2, 5, 0, 2, false);
        x.say(1, 5, 0, 2, false);
        x.say(0, 5, 0, 1, false);
        mend(x, 1, 2, 2, 2, 0);
        x.unsay();
        mend(x, 1, 0, 2, 2);
    }

    /** Seen and heard come first, told ahead of worked out only in an earlier round or the same. */
    private static void firstRound() {
        EndingTown x = Check.of("stem a;stem b;stem c;places 3;near 0 1;thing 0 0 3;thing 1 1 3 loud;thing 2 2 3;"
                + "person;person;at 1 3 2;at 1 4 0;rule 2 0;rule 2 1;");
        x.say(0, 5, 2, 0, false);
        x.say(1, 5, 2, 0, false);
        mend(x, 1, 2, 0);
        x.unsay();
        mend(x, 1, 3);
        x.say(0, 5, 1, 0, false);
        x.say(0, 2, 1, 0, false);
        x.say(0, 5, 0, 3, false);
        mend(x, 4, 3, 1, 4, 0);
        EndingTown y = Check.of("stem a;stem b;places 3;thing 0 0 3;thing 1 2 3 never;"
                + "person;person;at 1 3 2;at 1 4 0;rule 1 0;");
        y.say(0, 5, 1, 3, true);
        y.say(1, 5, 1, 0, true);
        mend(y, 1, 2, 0);
    }

    private static void kept() {
        EndingTown x = Check.of("stem a;thing 0 0 3;person;person;");
        Check.none("none is kept", () -> x.mended(0));
        x.say(0, 2, 0, 0, false);
        x.say(0, 3, 0, 0, false);
        mend(x, 1, 4, 0);
        x.unsay();
        Check.is("kept behind unsay", x.mended(1), 0);
        x.image();
        x.unsay();
        x.restore();
        Check.is("kept behind restore", x.mended(0), 4);
        for (int i = x.count(6); i < 13; i++) {
            x.say(1, 3, 0, 1, false);
        }
        Check.is("of 13", x.mend(), -1);
        Check.is("kept behind NONE", x.mended(0), 4);
        Check.none("of those that there were", () -> x.mended(2));
        Check.village(x, "!");
        Check.is("kept behind a fault", x.mended(0), 4);
        Check.village(x, "person;");
        Check.none("gone with the village", () -> x.mended(0));
        mend(x, 0);
    }

    /** Six rings of two, each with its own thing. */
    private static void limit() {
        EndingTown x = Check.of("stem a;stem b;stem c;stem d;stem e;stem f;thing 0 0 0;thing 1 0 0;thing 2 0 0;"
                + "thing 3 0 0;thing 4 0 0;thing 5 0 0;person;person;");
        for (int i = 0; i < 6; i++) {
            x.say(0, 1, i, 2, false);
            x.say(1, 1, i, 2, false);
        }
        Check.is("all are rings", x.wrong(1), 4095);
        mend(x, 6, 0, 2, 0, 2, 0, 2, 0, 2, 0, 2, 0, 2);
        x.say(0, 0, 0, 0, false);
        Check.is("of 13", x.mend(), -1);
    }
}
