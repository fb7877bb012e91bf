/** Promises 19 and 20: who must be silent, and what is likely. */
public final class LikelyTest {
    public static void main(String[] args) {
        silence();
        likely();
        roundedDown();
        Check.end();
    }

    private static void silence() {
        EndingTown x = Check.of("stem a;stem b;places 2;thing 0 1 3;thing 1 1 3 never;"
                + "person;person;person;person;person;at 1 3 1;at 1 4 0;at 2 3 1;at 2 4 0;");
        Check.is("nobody says it", x.silence(0, 0), 0);
        x.say(1, 5, 0, 0, false);
        Check.is("it holds", x.wrong(0), 0);
        Check.is("one says it", x.silence(0, 0), 2);
        Check.is("it still does", x.wrong(0), 0);
        Check.is("to oneself", x.silence(1, 0), 0);
        x.say(3, 6, 0, 2, false);
        Check.is("another has it of him", x.silence(0, 0), 2);
        Check.is("he who saw it is told it, too", x.silence(1, 0), 8);
        x.say(2, 7, 0, 0, false);
        Check.is("two eyes", x.silence(0, 0), 2 | 4);
        Check.is("two eyes for 3", x.silence(3, 0), 2 | 4);
        Check.is("for one of them", x.silence(1, 0), 4 | 8);
        x.unsay();
        x.unsay();
        x.say(0, 6, 0, 2, false);
        x.say(3, 7, 0, 2, false);
        Check.is("least bits", x.silence(4, 0), 2);
        Check.is("of another thing", x.silence(4, 1), 0);
        x.say(1, 5, 1, 0, true);
        Check.is("NOT is no rumour", x.silence(4, 1), 0);
        Check.is("the sayings stay", x.wrong(0), 0);
        Check.is("as they hold", x.saying(2, 6), 2);
        Check.none("nobody", () -> x.silence(5, 0));
        Check.none("nothing", () -> x.silence(0, 2));
        leastOfTwo();
        EndingTown y = Check.of("stem a;thing 0 0 23;person;person;person;");
        y.say(2, 23, 0, 0, false);
        Check.is("at the last hour", y.silence(0, 0), 4);
    }

    /** A chain of one teller only: silencing either would do, and the lesser bits are answered. */
    private static void leastOfTwo() {
        EndingTown x = Check.of("stem a;places 3;thing 0 1 3;person;person;person;"
                + "at 2 3 1;at 2 4 2;at 0 3 2;at 0 6 0;");
        x.say(2, 5, 0, 0, false);
        x.say(0, 7, 0, 2, false);
        Check.is("holds", x.wrong(0), 0);
        Check.is("the lesser", x.silence(1, 0), 1);
        EndingTown y = Check.of("stem a;places 3;thing 0 1 3;person;person;person;"
                + "at 0 3 1;at 0 4 2;at 2 3 2;at 2 6 0;");
        y.say(0, 5, 0, 0, false);
        y.say(2, 7, 0, 2, false);
        Check.is("the lesser, who saw", y.silence(1, 0), 1);
    }

    private static void likely() {
        EndingTown x = Check.of("stem a;stem b;places 2;thing 0 0 3;thing 1 0 3;person;person;person;at 2 5 1;"
                + "weigh 0 900 100;weigh 1 0 0;weigh 2 600 300;weigh 3 0 700;");
        Check.is("at first", x.likely(0, 0), 500000);
        x.say(1, 4, 0, 0, false);
        Check.is("seen", x.likely(0, 0), 900000);
        Check.is("seen, to another", x.likely(2, 0), 900000);
        Check.is("to oneself", x.likely(1, 0), 500000);
        Check.is("of another thing", x.likely(0, 1), 500000);
        x.say(1, 6, 0, 2, false);
        Check.is("told", x.likely(0, 0), 947368);
        Check.is("who wasn't there", x.likely(2, 0), 900000);
        x.say(1, 6, 0, 1, false);
        Check.is("by nothing at all", x.likely(0, 0), 947368);
        x.say(1, 6, 0, 4, true);
        Check.is("by what isn't told", x.likely(0, 0), 947368);
        x.say(1, 6, 0, 0, true);
        // 52632 are left: 47368800 of 142105600 are 333335.2 of a million
        Check.is("not", x.likely(0, 0), 1000000 - 333335);
        x.say(1, 6, 0, 3, true);
        Check.is("not, by what can't be", x.likely(0, 0), 1000000);
        x.say(1, 6, 0, 3, false);
        Check.is("divided by nothing", x.likely(0, 0), 1000000);
        Check.none("nobody", () -> x.likely(3, 0));
        Check.none("nothing", () -> x.likely(0, 2));
        Check.none("nobody -1", () -> x.likely(-1, 0));
        Check.none("nothing -1", () -> x.likely(0, -1));
    }

    private static void roundedDown() {
        EndingTown x = Check.of("stem a;thing 0 0 3;person;person;weigh 0 999 1;weigh 1 1 999;weigh 2 2 1;");
        int due = 500000;
        int[] hows = {0, 2, 2, 1, 0, 0, 2, 1, 1, 1, 2, 2, 0, 0};
        int[][] chances = {{999, 1}, {1, 999}, {2, 1}};
        for (int i = 0; i < hows.length; i++) {
            boolean not = i % 3 == 2;
            x.say(0, i, 0, hows[i], not);
            due = Big.of(due, chances[hows[i]][0], chances[hows[i]][1], not);
            Check.is("likely behind " + i, x.likely(1, 0), due);
        }
    }

    /** The same by big numbers. */
    private static final class Big {
        static int of(int likely, int first, int second, boolean not) {
            java.math.BigInteger million = java.math.BigInteger.valueOf(1000000);
            java.math.BigInteger x = java.math.BigInteger.valueOf(not ? 1000000 - likely : likely);
            java.math.BigInteger up = x.multiply(java.math.BigInteger.valueOf(first));
            java.math.BigInteger both = up.add(million.subtract(x).multiply(java.math.BigInteger.valueOf(second)));
            if (both.signum() == 0) {
                return likely;
            }
            int next = up.multiply(million).divide(both).intValueExact();
            return not ? 1000000 - next : next;
        }
    }
}
