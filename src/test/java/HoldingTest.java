/** Promises 14 to 16: what holds, by which chain and whose eyes; what one could say; what is wrong. */
public final class HoldingTest {
    public static void main(String[] args) {
        eyesAndEars();
        told();
        workedOut();
        chains();
        rings();
        ringsOfRules();
        eyes();
        Check.end();
    }

    private static void holds(EndingTown x, int saying, int chain, int eyes) {
        Check.is("holds " + saying, x.saying(saying, 5), chain > 0 ? 1 : 0);
        Check.is("chain " + saying, x.saying(saying, 6), chain);
        Check.is("eyes " + saying, x.saying(saying, 7), eyes);
    }

    private static void eyesAndEars() {
        EndingTown x = Check.of("stem a;stem b;stem c;stem d;places 4;near 1 0;near 1 2;"
                + "thing 0 1 5 loud;thing 1 1 5;thing 2 1 5 loud never;thing 3 0 5 never;"
                + "person;person;person;person;at 1 5 1;at 1 6 3;at 2 0 2;at 3 0 3;");
        int[][] due = { // by person: things without NOT, then with, at hours 5 and 9
            {2, 0, 0, 0, 0, 0, 0, 1}, {1, 1, 0, 0, 0, 0, 1, 0}, {2, 0, 0, 0, 0, 0, 0, 0}, {0, 0, 0, 0, 0, 0, 0, 0}};
        for (int person = 0; person < 4; person++) {
            for (int thing = 0; thing < 4; thing++) {
                for (int not = 0; not < 2; not++) {
                    String call = "could " + person + " " + thing + " " + not;
                    int bits = 16 | due[person][4 * not + thing];
                    Check.is(call + " ahead of it", x.could(person, 4, thing, not == 1), 16);
                    Check.is(call + " then", x.could(person, 5, thing, not == 1), bits);
                    Check.is(call + " later", x.could(person, 9, thing, not == 1), bits);
                    for (int how = 0; how < 5; how++) {
                        x.say(person, 9, thing, how, not == 1);
                        int holds = bits >> how & 1;
                        holds(x, 0, holds, how < 2 ? holds << person : 0);
                        Check.is(call + " wrong", x.wrong(0), 1 - holds);
                        Check.is(call + " no ring", x.wrong(1), 0);
                        x.unsay();
                    }
                }
            }
        }
        Check.none("could of nobody", () -> x.could(4, 0, 0, false));
        Check.none("could at no hour", () -> x.could(0, 24, 0, false));
        Check.none("could of nothing", () -> x.could(0, 0, 4, false));
        Check.none("wrong(2)", () -> x.wrong(2));
        Check.none("wrong(-1)", () -> x.wrong(-1));
    }

    private static final String TOLD = "stem a;stem b;places 3;thing 0 1 5;thing 1 1 5 never;"
            + "person;person;person;at 0 5 1;at 0 6 2;at 1 8 2;at 2 9 2;";

    private static void told() {
        EndingTown x = Check.of(TOLD);
        x.say(0, 8, 0, 0, false);
        x.say(1, 8, 0, 2, false);
        x.say(1, 7, 0, 2, false);
        x.say(2, 9, 0, 2, false);
        x.say(2, 9, 0, 2, true);
        x.say(0, 8, 1, 4, true);
        x.say(1, 9, 1, 2, true);
        x.say(0, 9, 0, 2, false);
        x.say(1, 9, 1, 2, false);
        holds(x, 0, 1, 1);
        holds(x, 1, 2, 1);
        holds(x, 2, 0, 0);
        holds(x, 3, 4, 1);
        holds(x, 4, 0, 0);
        holds(x, 5, 1, 0);
        holds(x, 6, 0, 0);
        holds(x, 7, 3, 1);
        holds(x, 8, 0, 0);
        Check.is("wrong", x.wrong(0), 4 + 16 + 64 + 256);
        Check.is("no rings", x.wrong(1), 0);
        Check.is("could 1", x.could(1, 8, 0, false), 4 | 16);
        Check.is("could 1 ahead", x.could(1, 7, 0, false), 16);
        Check.is("could 2, by what was said at 9", x.could(2, 23, 0, false), 4 | 16);
        x.unsay();
        x.unsay();
        Check.is("could 2, without it", x.could(2, 23, 0, false), 16);
        holds(x, 3, 0, 0);
        Check.is("could not", x.could(1, 23, 0, true), 16);
        x.say(0, 10, 1, 0, true);
        Check.is("could say NOT", x.could(1, 23, 1, true), 4 | 16);
        Check.is("and not that it is so", x.could(1, 23, 1, false), 16);
        Check.is("one's own words tell one nothing", x.could(0, 23, 1, true), 1 | 16);
    }

    private static final String RULES = "stem a;stem b;stem c;stem d;stem e;places 2;"
            + "thing 0 1 5;thing 1 0 5;thing 2 0 6 never;thing 3 1 7;thing 4 1 7;"
            + "person;person;at 1 4 1;";

    private static void workedOut() {
        EndingTown x = Check.of(RULES + "rule 0 1;rule 3 0 1;rule 4 2;rule 2 3 0;rule 1 0;");
        Check.is("a seen ground", x.could(0, 5, 0, false), 8 | 16);
        Check.is("ahead of the ground", x.could(0, 4, 0, false), 16);
        Check.is("not by NOT", x.could(0, 5, 0, true), 16);
        Check.is("by way of another", x.could(0, 5, 3, false), 8 | 16);
        Check.is("a thing that never was", x.could(0, 5, 2, false), 8 | 16);
        Check.is("what follows from it", x.could(0, 5, 4, false), 8 | 16);
        Check.is("seen, and worked out of what is worked out of it", x.could(0, 5, 1, false), 1 | 8 | 16);
        x.say(0, 9, 0, 3, false);
        x.say(0, 9, 3, 3, false);
        x.say(0, 9, 2, 3, false);
        x.say(0, 9, 4, 3, false);
        x.say(0, 9, 1, 3, false);
        x.say(0, 9, 0, 3, true);
        x.say(0, 4, 0, 3, false);
        int[] chain = {2, 3, 4, 5, 3, 0, 0};
        for (int i = 0; i < chain.length; i++) {
            holds(x, i, chain[i], chain[i] > 0 ? 1 : 0);
        }
        EndingTown y = Check.of(RULES + "rule 3 0 1;rule 2 3;rule 3 2;");
        Check.is("one ground lacks", y.could(0, 9, 3, false), 16);
        Check.is("a ring of rules", y.could(0, 9, 2, false), 16);
        Check.is("seen, and round by the ring", y.could(1, 9, 3, false), 1 | 8 | 16);
        y.say(0, 1, 0, 4, false);
        Check.is("told by a dream", y.could(0, 9, 3, false), 16);
        Check.is("a dream tells nobody", y.could(1, 9, 0, false), 1 | 16);
    }

    private static void chains() {
        EndingTown x = Check.of("stem a;stem b;stem c;places 2;thing 0 1 0;thing 1 1 0;thing 2 1 0;"
                + "person;person;person;person;at 0 0 1;at 0 1 0;rule 2 0 1;rule 2 1;rule 1 0;");
        x.say(3, 5, 2, 3, false);
        x.say(2, 5, 0, 2, false);
        x.say(1, 5, 0, 2, false);
        x.say(0, 5, 0, 0, false);
        holds(x, 3, 1, 1);
        holds(x, 2, 2, 1);
        holds(x, 1, 2, 1);
        holds(x, 0, 4, 1);
        x.unsay();
        x.say(0, 6, 0, 0, false);
        Check.is("said too late", x.wrong(0), 7);
        x.say(0, 4, 1, 0, false);
        holds(x, 0, 3, 1);
        x.say(0, 4, 2, 0, false);
        Check.is("by every how but heard", x.could(3, 6, 2, false), 4 | 8 | 16);
    }

    private static void rings() {
        EndingTown x = Check.of("stem a;stem b;places 2;thing 0 1 3;thing 1 1 3 never;"
                + "person;person;person;person;at 3 0 1;");
        x.say(0, 5, 0, 2, false);
        x.say(1, 5, 0, 2, false);
        x.say(2, 6, 0, 2, false);
        x.say(2, 5, 1, 2, true);
        x.say(0, 5, 1, 0, false);
        x.say(1, 5, 1, 2, false);
        x.say(0, 4, 0, 2, false);
        Check.is("wrong", x.wrong(0), 127);
        Check.is("rings, and what leans on them", x.wrong(1), 1 + 2 + 4);
        Check.is("a ring is no ground to be told by", x.could(2, 9, 0, false), 16);
        x.say(3, 3, 0, 0, false);
        Check.is("elsewhere", x.wrong(1), 7);
        x.unsay();
        x.say(2, 5, 0, 4, false);
        Check.is("a dream is no ground", x.wrong(0), 127);
        Check.is("a dream is no ring", x.wrong(1), 7);
        EndingTown y = Check.of("stem a;thing 0 0 3;person;person;person;");
        y.say(0, 5, 0, 2, false);
        y.say(1, 5, 0, 2, false);
        Check.is("a ring", y.wrong(1), 3);
        y.say(2, 5, 0, 0, false);
        Check.is("a ring with a ground", y.wrong(0), 0);
        Check.is("is none", y.wrong(1), 0);
        holds(y, 0, 2, 4);
        holds(y, 1, 2, 4);
    }

    private static void ringsOfRules() {
        EndingTown x = Check.of("stem a;stem b;stem c;places 2;thing 0 1 3;thing 1 1 3;thing 2 1 3;"
                + "person;person;rule 1 0;rule 0 1;rule 2 0 1;");
        x.say(0, 5, 1, 3, false);
        Check.is("rules alone are no ring", x.wrong(1), 0);
        x.say(1, 5, 0, 3, false);
        Check.is("two who lean on each other", x.wrong(1), 3);
        x.say(0, 5, 2, 3, false);
        Check.is("and who leans on one", x.wrong(1), 7);
        x.say(1, 4, 2, 3, false);
        Check.is("but not ahead of it", x.wrong(1), 7);
        Check.is("all are wrong", x.wrong(0), 15);
        Check.is("none could", x.could(0, 23, 2, false), 16);
    }

    private static void eyes() {
        EndingTown x = Check.of("stem a;stem b;stem c;stem d;places 2;near 0 1;thing 0 0 3 loud;thing 1 0 3;"
                + "thing 2 1 4;thing 3 0 5;person;person;person;person;person;"
                + "at 3 3 1;at 3 4 0;at 4 0 1;at 4 5 0;rule 2 0 1;rule 2 3;rule 3 2;rule 1 3;");
        x.say(0, 5, 0, 0, false);
        x.say(3, 5, 0, 1, false);
        x.say(4, 5, 0, 2, false);
        holds(x, 2, 2, 1 | 8);
        x.say(4, 5, 0, 1, false);
        holds(x, 3, 1, 16);
        x.say(1, 5, 0, 2, false);
        holds(x, 4, 2, 1 | 8 | 16);
        x.say(4, 6, 2, 3, false);
        holds(x, 5, 2, 16 | 1 | 8);
        Check.is("4 could see it and work it out", x.could(4, 6, 2, false), 1 | 8 | 16);
        x.say(2, 6, 2, 2, false);
        holds(x, 6, 3, 1 | 8 | 16);
        x.say(0, 2, 1, 4, false);
        holds(x, 7, 1, 0);
        halfRule();
    }

    /** A rule one of whose grounds one couldn't say lends no eyes. */
    private static void halfRule() {
        EndingTown x = Check.of("stem a;stem b;stem c;stem d;places 2;thing 0 1 3;thing 1 1 3;thing 2 0 3;thing 3 1 3;"
                + "person;person;person;at 1 3 1;at 1 4 0;rule 3 0 1;rule 3 2;");
        x.say(1, 5, 0, 0, false);
        x.say(0, 5, 3, 3, false);
        holds(x, 1, 2, 1);
        x.say(1, 5, 1, 0, false);
        holds(x, 1, 2, 1 | 2);
    }
}
