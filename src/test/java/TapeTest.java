/** Promises 1, 2, 5 and the tape of 3, 9, 12: a new object, feed, count, what empties the tape. */
public final class TapeTest {
    public static void main(String[] args) {
        newObject();
        feeding();
        emptying();
        counts();
        Check.end();
    }

    private static void newObject() {
        EndingTown x = new EndingTown();
        Check.is("NONE", EndingTown.NONE, -1);
        for (int what = 0; what <= 11; what++) {
            Check.is("new count(" + what + ")", x.count(what), what == 2 ? 1 : 0);
        }
        Check.is("new fault()", x.fault(), -1);
        Check.is("new unsay()", x.unsay(), -1);
        Check.is("new restore()", x.restore(), false);
        Check.is("new wrong(0)", x.wrong(0), 0);
        Check.is("new wrong(1)", x.wrong(1), 0);
        Check.none("new mended(0)", () -> x.mended(0));
        Check.is("new mend()", x.mend(), 0);
        Check.none("mended(0) of no sayings", () -> x.mended(0));
        Check.none("new where", () -> x.where(0, 0));
        Check.none("new thing", () -> x.thing(0, 0));
        Check.none("new word", () -> x.word(0, 0, 0, -1));
        Check.none("new way", () -> x.way(0));
        Check.none("new say", () -> x.say(0, 0, 0, 0, false));
        Check.none("new could", () -> x.could(0, 0, 0, false));
        Check.none("new silence", () -> x.silence(0, 0));
        Check.none("new likely", () -> x.likely(0, 0));
        Check.none("new tell", () -> x.tell(0, 0, false));
        Check.none("new known", () -> x.known(0, 1, 0, false) ? 1 : 0);
        Check.illegal("new worlds(1)", () -> x.worlds(1));
        Check.illegal("new worlds(0)", () -> x.worlds(0));
        Check.none("new utter", () -> x.utter(0, 0, 0));
    }

    private static void feeding() {
        EndingTown x = new EndingTown();
        for (int k = 1; k <= 40; k++) {
            Check.is("feed " + k, x.feed(0, 0, 0, 0, 0), 20 * k);
        }
        Check.is("feed beyond 800", x.feed(1, 2, 3, 4, 5), -1);
        Check.is("bytes", x.count(7), 800);
        Check.is("a byte that is no token", x.village(800), 1);
        Check.is("its place", x.fault(), 0);
        // the highest byte comes first: "stem", " a;s", "tem ", "b;  ", blanks
        Check.is("feed in order", x.feed(0x7374656d, 0x20613b73, 0x74656d20, 0x623b2020, 0x20202020), 20);
        Check.is("village of it", x.village(20), 0);
        Check.is("stems of it", x.count(0), 2);
        Check.is("negative numbers", x.feed(-1, 0x20202020, 0x20202020, 0x20202020, 0x20202020), 20);
        Check.is("bytes 255 are no tokens", x.village(20), 1);
    }

    private static void emptying() {
        EndingTown x = Check.of("stem a;ending 2 0 b;person;thing 0 0 0;");
        Check.feed(x, "ab");
        Check.illegal("village(21)", () -> x.village(21));
        Check.illegal("village(-1)", () -> x.village(-1));
        Check.illegal("apart(21)", () -> x.apart(21));
        Check.illegal("apart(-1)", () -> x.apart(-1));
        Check.illegal("utter 21", () -> x.utter(0, 0, 21));
        Check.illegal("utter -1", () -> x.utter(0, 0, -1));
        Check.none("utter by nobody ahead of -1", () -> x.utter(1, 0, -1));
        Check.none("utter at no hour ahead of -1", () -> x.utter(0, 24, -1));
        Check.is("nothing changed", x.count(7), 20);
        Check.is("no refusal counted", x.count(8) + x.count(9), 0);
        Check.is("apart(2)", x.apart(2), 1);
        Check.is("apart empties", x.count(7), 0);
        Check.feed(x, "ab");
        Check.is("utter(2)", x.utter(0, 0, 2), 1);
        Check.is("utter empties", x.count(7), 0);
        Check.feed(x, "!");
        Check.is("utter refused", x.utter(0, 0, 1), -1);
        Check.is("a refused utter empties", x.count(7), 0);
        Check.feed(x, "!");
        Check.is("village refused", x.village(1), 1);
        Check.is("a refused village empties", x.count(7), 0);
        Check.feed(x, "!");
        Check.is("village of nothing", x.village(0), 0);
        Check.is("village of nothing empties", x.count(7), 0);
        Check.is("village of nothing has no stems", x.count(0), 0);
        Check.is("apart(0)", x.apart(0), 0);
    }

    private static void counts() {
        EndingTown x = Check.of("stem a;stem b;stem c;change a b c;change b a c;places 5;person;person;"
                + "thing 0 0 0;thing 1 0 0;thing 2 4 0;rule 0 1;rule 0 2;rule 1 2 0;");
        int[] due = {3, 2, 5, 2, 3, 3, 0, 0, 0, 0, 0, 0};
        for (int what = 0; what < due.length; what++) {
            Check.is("count(" + what + ")", x.count(what), due[what]);
        }
        x.say(0, 0, 0, 0, false);
        x.say(0, 0, 0, 5, false);
        x.say(0, 0, 0, -1, false);
        x.tell(0, 0, false);
        x.worlds(7);
        Check.village(x, "!");
        Check.village(x, "foo");
        Check.village(x, "stem");
        Check.is("sayings", x.count(6), 1);
        Check.is("STATUS 0", x.count(8), 3);
        Check.is("STATUS 1", x.count(9), 2);
        Check.is("STATUS 2", x.count(10), 1);
        Check.is("worlds", x.count(11), 8);
        Check.none("count(-1)", () -> x.count(-1));
        Check.none("count(12)", () -> x.count(12));
        Check.is("a village anew", Check.village(x, "stem a;"), 0);
        Check.is("STATUS stays", x.count(8) * 100 + x.count(9) * 10 + x.count(10), 321);
    }
}
