/** Promises 21 to 23: worlds, words in public, what is known and known to be known. */
public final class WorldsTest {
    private static final String TEXT = "stem a;stem b;stem c;stem d;stem e;places 3;thing 0 0 3;thing 1 1 3 never;"
            + "thing 2 0 5;thing 3 2 5;thing 4 2 6 never;person;person;person;at 1 3 1;at 2 4 2;";

    public static void main(String[] args) {
        opening();
        knowing();
        telling();
        deep();
        Check.end();
    }

    private static void opening() {
        EndingTown x = Check.of(TEXT);
        Check.is("none are told", x.count(11), 0);
        Check.is("tell without worlds", x.tell(0, 0, false), -1);
        Check.is("is refused", x.count(10), 1);
        Check.is("known without worlds", x.known(0, 1, 0, false), false);
        Check.is("worlds(1)", x.worlds(1), 2);
        Check.is("worlds(20)", x.worlds(20), 4);
        Check.is("worlds(22)", x.worlds(22), 8);
        Check.is("worlds(30)", x.worlds(30), 16);
        Check.is("left", x.count(11), 16);
        Check.illegal("none", () -> x.worlds(0));
        Check.illegal("five", () -> x.worlds(31));
        Check.illegal("a thing that there isn't", () -> x.worlds(32));
        Check.illegal("and one more", () -> x.worlds(33));
        Check.illegal("below 0", () -> x.worlds(-1));
        Check.illegal("the highest bit", () -> x.worlds(Integer.MIN_VALUE));
        Check.is("they stay", x.count(11), 16);
    }

    private static void knowing() {
        EndingTown x = Check.of(TEXT);
        x.worlds(15);
        boolean[][] seen = {{true, false, true, false}, {false, true, false, false}, {true, false, false, true}};
        boolean[] never = {false, true, false, false};
        for (int person = 0; person < 3; person++) {
            for (int thing = 0; thing < 4; thing++) {
                for (int not = 0; not < 2; not++) {
                    boolean due = seen[person][thing] && never[thing] == (not == 1);
                    Check.is("known " + person + " " + thing + " " + not,
                            x.known(person, 1, thing, not == 1), due);
                }
            }
        }
        Check.is("0 knows that 2 knows", x.known(0 + 8 * 2, 2, 0, false), true);
        Check.is("2 knows that 0 knows", x.known(2 + 8 * 0, 2, 0, false), true);
        Check.is("0 can't know that 2 knows", x.known(0 + 8 * 2, 2, 3, false), false);
        Check.is("higher figures count for nothing", x.known(0 + 8 * 7, 1, 0, false), true);
        Check.is("a thing of no world", x.known(0, 1, 4, true), false);
        Check.none("no thing", () -> x.known(0, 1, 5, false) ? 1 : 0);
        Check.none("no thing ahead of many", () -> x.known(0, 0, 5, false) ? 1 : 0);
        Check.none("no thing -1", () -> x.known(0, 1, -1, false) ? 1 : 0);
        Check.illegal("many 0", () -> x.known(0, 0, 0, false) ? 1 : 0);
        Check.illegal("many 5", () -> x.known(0, 5, 0, false) ? 1 : 0);
        Check.illegal("no person", () -> x.known(3, 1, 0, false) ? 1 : 0);
        Check.illegal("no person later", () -> x.known(8 * 8 * 8 * 3, 4, 0, false) ? 1 : 0);
        Check.illegal("no person, of no world", () -> x.known(7, 1, 4, false) ? 1 : 0);
        Check.is("nothing refused is counted", x.count(10), 0);
    }

    private static void telling() {
        EndingTown x = Check.of(TEXT);
        x.worlds(7);
        Check.is("1 doesn't know", x.tell(1, 0, false), -1);
        Check.is("that it is not so nobody knows", x.tell(0, 0, true), -1);
        Check.is("a thing of no world", x.tell(0, 3, false), -1);
        Check.is("refused", x.count(10), 3);
        Check.is("all are left", x.count(11), 8);
        Check.none("nobody", () -> x.tell(3, 0, false));
        Check.none("nobody -1", () -> x.tell(-1, 0, false));
        Check.none("nothing", () -> x.tell(0, 5, false));
        Check.is("2 knows of 0", x.tell(2, 0, false), 4);
        Check.is("now 1 does", x.known(1, 1, 0, false), true);
        Check.is("and all know it", x.known(1 + 8 * 0 + 64 * 1 + 512 * 2, 4, 0, false), true);
        Check.is("1 knows that it is not so", x.tell(1, 1, true), 2);
        Check.is("0 knows of 2", x.known(1 + 8 * 2, 2, 1, true), true);
        Check.is("2 doesn't know of 2", x.known(2, 1, 2, false), false);
        Check.is("0 tells it", x.tell(0, 2, false), 1);
        Check.is("2 does now", x.known(2, 1, 2, false), true);
        Check.is("again", x.tell(2, 2, false), 1);
        Check.is("anew", x.worlds(7), 8);
        Check.is("what was told is forgotten", x.known(1, 1, 0, false), false);
    }

    /** Who saw nothing comes to know by public words, and all know that he knows. */
    private static void deep() {
        EndingTown x = Check.of("stem a;stem b;places 2;thing 0 0 3;thing 1 1 3;person;person;person;at 1 2 1;"
                + "at 2 0 1;at 2 4 0;");
        x.worlds(3);
        Check.is("1 knows of 1", x.known(1, 1, 1, false), true);
        Check.is("2 knows that 1 knows", x.known(2 + 8, 2, 1, false), true);
        Check.is("0 doesn't know that", x.known(0 + 8, 2, 1, false), false);
        Check.is("0 tells", x.tell(0, 0, false), 2);
        Check.is("2 knows that 0 knows that 1 knows", x.known(2 + 8 * 0 + 64 * 1, 3, 0, false), true);
        Check.is("0 doesn't know of 1", x.known(0, 1, 1, false), false);
        Check.is("not that it isn't so, either", x.known(0, 1, 1, true), false);
    }
}
