/** Promises 3 and 4: the tongue and village of a text, its first fault, what stays and what is gone. */
public final class FaultTest {
    public static void main(String[] args) {
        clean();
        firstFaults();
        secondFaults();
        otherFaults();
        whatStays();
        Check.end();
    }

    private static String times(int many, String text) {
        return text.repeat(many);
    }

    private static final String STEMS =
            "stem a;stem b;stem c;stem d;stem e;stem f;stem g;stem h;stem i;stem j;stem k;stem l;";
    private static final String THINGS = "thing 0 0 0;thing 1 0 0;thing 2 0 0;thing 3 0 0;"
            + "thing 4 0 0;thing 5 0 0;thing 6 0 0;thing 7 0 0;";

    private static void clean() {
        Check.fine("");
        Check.fine("  \n \n");
        Check.fine("\n stem\nabcdefgh ;  ");
        Check.fine("stem stem;stem not;stem stem;");
        Check.fine("places3;near0 1;near 1 0;near 0 2;");
        Check.fine("places 006;near 005 000;");
        Check.fine(STEMS + THINGS + "rule 0 1;rule 0 1;rule 1 0;rule 0 1 2 3;rule 7 6 5 4;rule 1 2 3;");
        Check.fine(times(6, "person;") + "places 6;at 5 23 5;at 5 23 0;at 0 0 0;");
        Check.fine(times(6, "change a b c;"));
        Check.fine("weigh 0 999 0;weigh 0 1 999;weigh 4 000 001;");
        Check.fine("stem a;thing 0 0 0 loud;stem b;thing 1 0 0 never;stem c;thing 2 0 23 loud never;");
        Check.fine("ending 0 0 a;ending 0 1 a;ending 1 0 a;ending 2 4 abcdefgh;not not;");
        Check.fine("places 1;person;at 0 5 0;");
        Check.fine("person;stem a;not a;change a a a;weigh 1 1 1;places 2;");
    }

    private static void firstFaults() {
        Check.fault(1, "|;");
        Check.fault(1, "|foo;");
        Check.fault(1, "|7;");
        Check.fault(1, "  |Stem a;");
        Check.fault(1, "stem|");
        Check.fault(1, "stem  \n|");
        Check.fault(1, "stem a|");
        Check.fault(1, "stem a|B;");
        Check.fault(1, "stem a |b;");
        Check.fault(1, "stem a|1;");
        Check.fault(1, "stem |1;");
        Check.fault(1, "stem |1234;");
        Check.fault(1, "stem |;");
        Check.fault(1, "|stema;");
        Check.fault(1, "|abcdefghijk;");
        Check.fault(1, "stem a;|;");
        Check.fault(1, "stem|\ta;");
        Check.fault(1, "ending |a 0 b;");
        Check.fault(1, "ending 0 |b;");
        Check.fault(1, "ending 0 0 |1;");
        Check.fault(1, "ending 0 0|");
        Check.fault(1, "change a b|;");
        Check.fault(1, "change a b c |d;");
        Check.fault(1, "not|;");
        Check.fault(1, "places |a;");
        Check.fault(1, "places 2 |3;");
        Check.fault(1, "places 2 |3000;");
        Check.fault(1, "person |0;");
        Check.fault(1, "person|");
        Check.fault(1, "person;at 0 0|;");
        Check.fault(1, "stem a;thing 0 0 |loud;");
        Check.fault(1, "stem a;thing 0 0 0 never |loud;");
        Check.fault(1, "stem a;thing 0 0 0 loud |loud;");
        Check.fault(1, "stem a;thing 0 0 0 never |never;");
        Check.fault(1, "stem a;thing 0 0 0 |silent;");
        Check.fault(1, "stem a;thing 0 0 0 |1;");
        Check.fault(1, "stem a;thing 0 0 0 loud|");
        Check.fault(1, "stem a;thing 0 0 0;rule 0|;");
        Check.fault(1, "stem a;stem b;thing 0 0 0;thing 1 0 0;rule 0 1 |a;");
        Check.fault(1, "stem a;stem b;thing 0 0 0;thing 1 0 0;rule 0 1|");
        Check.fault(1, "weigh 0 1|;");
        Check.fault(1, "weigh 0 1 2 |3;");
        Check.fault(1, "stem a|-;");
    }

    private static void secondFaults() {
        Check.fault(2, "stem |abcdefghi;");
        Check.fault(2, "ending 0 0 |abcdefghi;");
        Check.fault(2, "change a abcdefgh |abcdefghi;");
        Check.fault(2, "not |abcdefghi;");
        Check.fault(2, "ending |3 0 a;");
        Check.fault(2, "ending |0000 0 a;");
        Check.fault(2, "ending 0 |5 a;");
        Check.fault(2, "places |0;");
        Check.fault(2, "places |7;");
        Check.fault(2, "places |0002;");
        Check.fault(2, "near |1000 0;");
        Check.fault(2, "near 0 |1000;");
        Check.fault(2, "stem a;thing |1000 0 0;");
        Check.fault(2, "stem a;thing 0 |1000 0;");
        Check.fault(2, "stem a;thing 0 0 |24;");
        Check.fault(2, "stem a;thing 0 0 |1000;");
        Check.fault(2, "person;at |1000 0 0;");
        Check.fault(2, "person;at 0 |24 0;");
        Check.fault(2, "person;at 0 0 |1000;");
        Check.fault(2, "weigh |5 0 0;");
        Check.fault(2, "weigh 0 |1000 0;");
        Check.fault(2, "weigh 0 |1001 0;");
        Check.fault(2, "weigh 0 0 |9999;");
        Check.fault(2, "weigh 0 |12345678901234567890 0;");
        Check.fault(2, STEMS + "|stem m;");
        Check.fault(2, STEMS + "|stem");
        Check.fault(2, times(6, "change a b c;") + "|change 1;");
        Check.fault(2, times(6, "person;") + "|person;");
        Check.fault(2, STEMS + THINGS + "|thing 0 0 0;");
        Check.fault(2, STEMS + THINGS + times(6, "rule 0 1;") + "|rule;");
        Check.fault(2, STEMS + THINGS + "rule 0 1 2 3 |4;");
        Check.fault(2, STEMS + THINGS + "rule 0 1 2 3 |3;");
        Check.fault(2, STEMS + THINGS + "rule 0 1 2 3 |99;");
        Check.fault(2, STEMS + THINGS + "rule 0 |1000;");
        Check.fault(1, STEMS + THINGS + "rule 0 1 2 3 |a;");
    }

    private static void otherFaults() {
        Check.fault(3, "thing |0 0 0;");
        Check.fault(3, "stem a;thing |1 0 0;");
        Check.fault(3, "stem a;thing |999 0 0;");
        Check.fault(3, "stem a;thing 0 |1 0;");
        Check.fault(3, "places 6;stem a;thing 0 |6 0;");
        Check.fault(3, "near |1 0;");
        Check.fault(3, "near 0 |1;");
        Check.fault(3, "places 3;near 0 |3;");
        Check.fault(3, "at |0 0 0;");
        Check.fault(3, "person;at |1 0 0;");
        Check.fault(3, "person;at 0 0 |1;");
        Check.fault(3, "rule |0 0;");
        Check.fault(3, "stem a;thing 0 0 0;rule |1 0;");
        Check.fault(3, "stem a;thing 0 0 0;rule 0 |1;");
        Check.fault(4, "ending 0 0 a;ending 0 |0 a;");
        Check.fault(4, "ending 2 4 a;ending 2 |4 abcdefghijkl;");
        Check.fault(4, "not a;|not b;");
        Check.fault(4, "not a;|not");
        Check.fault(4, "places 2;|places 2;");
        Check.fault(4, "places 2;near 0 1;|places 2;");
        Check.fault(4, "near 0 |0;");
        Check.fault(4, "places 2;near 1 |1;");
        Check.fault(4, "stem a;stem b;thing 0 0 0;thing |0 0 0;");
        Check.fault(4, "stem a;thing 0 0 0;rule 0 |0;");
        Check.fault(4, STEMS + THINGS + "rule 0 1 |1;");
        Check.fault(4, STEMS + THINGS + "rule 0 1 2 |0;");
        Check.fault(4, STEMS + THINGS + "rule 0 1 2 |1;");
        Check.fault(5, "stem a;thing 0 0 0;|places 2;");
        Check.fault(5, "person;at 0 0 0;|places 2;");
        Check.fault(5, "person;at 0 0 0;|places 9;");
        Check.fault(4, "places 1;person;at 0 0 0;|places 9;");
    }

    private static void whatStays() {
        EndingTown x = Check.of("stem a;ending 2 0 b;person;person;thing 0 0 0;");
        x.say(0, 1, 0, 0, false);
        x.worlds(1);
        x.mend();
        x.image();
        Check.apart(x, "ab");
        Check.is("a fault", Check.village(x, "stem x;stem y;person;ending 0 0 q;near 0 1;"), 3);
        Check.is("its place", x.fault(), 41);
        Check.is("stems stay", x.count(0), 1);
        Check.is("people stay", x.count(3), 2);
        Check.is("words stay", x.word(0, 2, 0, 0), 'a');
        Check.is("endings stay", x.word(0, 0, 0, -1), 0);
        Check.is("sayings stay", x.count(6), 1);
        Check.is("worlds stay", x.count(11), 2);
        Check.is("the mend stays", x.mended(0), 0);
        Check.is("ways stay", x.way(0), 10);
        Check.is("the image stays", x.restore(), true);
        Check.feed(x, "stem");
        Check.illegal("not so many", () -> x.village(21));
        Check.is("its place stays", x.fault(), 41);
        Check.is("only the first n bytes", x.village(0), 0);
        Check.is("no fault", x.fault(), -1);
        Check.is("no stems", x.count(0), 0);
        Check.is("no people", x.count(3), 0);
        Check.is("no sayings", x.count(6), 0);
        Check.is("no worlds", x.count(11), 0);
        Check.none("no mend", () -> x.mended(0));
        Check.is("no image", x.restore(), false);
        Check.is("ways stay till the next apart", x.way(0), 10);
        anew();
    }

    private static void anew() {
        EndingTown x = Check.of("stem ab;ending 2 0 c;change b c x;not n;places 3;near 0 1;person;"
                + "thing 0 1 4 loud never;at 0 3 2;weigh 2 900 100;");
        String bare = "stem ab;stem b;ending 2 0 c;places 3;person;person;thing 0 1 4;thing 1 1 4 loud;";
        Check.is("a second village", Check.village(x, bare), 0);
        Check.is("no change", x.word(0, 2, 0, -1), 3);
        Check.is("not near", x.could(0, 9, 1, false), 16);
        Check.is("not moved", x.where(0, 9), 0);
        Check.is("not loud", x.thing(0, 3), 0);
        Check.is("not never", x.thing(0, 4), 0);
        Check.is("no NOT", Check.utter(x, 0, 9, "n abc"), -1);
        x.say(1, 9, 0, 2, false);
        Check.is("weighs 500", x.likely(0, 0), 500000);
    }
}
