/** Promises 11 to 14, what is said and taken back, as it was said. */
public final class SayingTest {
    private static final String TEXT = "stem kata;stem no;stem kat;stem un;ending 2 0 ha;ending 2 2 mi;"
            + "ending 2 4 aha;ending 0 0 n;ending 1 1 ha;ending 1 2 so;change a ha e;not ne;places 2;"
            + "person;person;thing 1 0 5;thing 0 1 6;thing 2 0 7;stem ne;stem n;thing 4 0 1;thing 5 0 2;"
            + "ending 1 3 e;";

    public static void main(String[] args) {
        saying();
        full();
        uttering();
        Check.end();
    }

    private static void row(EndingTown x, int saying, int... due) {
        for (int what = 0; what < due.length; what++) {
            Check.is("saying(" + saying + ", " + what + ")", x.saying(saying, what), due[what]);
        }
    }

    private static void saying() {
        EndingTown x = Check.of(TEXT);
        Check.is("say", x.say(1, 23, 2, 4, true), 1);
        Check.is("say", x.say(0, 0, 0, 0, false), 2);
        row(x, 0, 1, 23, 2, 4, 1, 1, 1, 0);
        row(x, 1, 0, 0, 0, 0, 0, 0, 0, 0);
        Check.none("no person", () -> x.say(2, 0, 0, 0, false));
        Check.none("no person", () -> x.say(-1, 0, 0, 0, false));
        Check.none("no hour", () -> x.say(0, 24, 0, 0, false));
        Check.none("no hour", () -> x.say(0, -1, 0, 0, false));
        Check.none("no thing", () -> x.say(0, 0, 5, 0, false));
        Check.none("no thing", () -> x.say(0, 0, -1, 0, false));
        Check.none("no thing ahead of no how", () -> x.say(0, 0, 5, 9, false));
        Check.is("none counted", x.count(9), 0);
        Check.is("no how 5", x.say(0, 0, 0, 5, false), -1);
        Check.is("no how -1", x.say(0, 0, 0, -1, false), -1);
        Check.is("counted", x.count(9), 2);
        Check.is("not said", x.count(6), 2);
        Check.none("no saying 2", () -> x.saying(2, 0));
        Check.none("no saying -1", () -> x.saying(-1, 0));
        Check.none("no what 8", () -> x.saying(0, 8));
        Check.none("no what -1", () -> x.saying(0, -1));
        Check.is("unsay", x.unsay(), 1);
        Check.none("taken back", () -> x.saying(1, 0));
        row(x, 0, 1, 23, 2, 4, 1);
        Check.is("unsay", x.unsay(), 0);
        Check.is("unsay of none", x.unsay(), -1);
        Check.is("unsay of none is no refusal", x.count(9), 2);
    }

    private static void full() {
        EndingTown x = Check.of(TEXT);
        for (int i = 1; i <= 20; i++) {
            Check.is("say " + i, x.say(i % 2, i, i % 3, i % 5, i % 4 == 0), i);
        }
        Check.is("the 21st", x.say(0, 0, 0, 0, false), -1);
        Check.is("the 21st uttered", Check.utter(x, 0, 0, "nomi"), -1);
        Check.is("the tape is empty", x.count(7), 0);
        Check.none("nobody ahead of the 21st", () -> x.say(2, 0, 0, 0, false));
        Check.is("counted", x.count(9), 2);
        row(x, 19, 0, 20, 2, 0, 1);
        Check.is("one back", x.unsay(), 19);
        Check.is("one more", Check.utter(x, 1, 3, "nomi"), 20);
        row(x, 19, 1, 3, 0, 2, 0);
    }

    private static void clear(EndingTown x, String text, int thing, int how, int not) {
        int many = x.count(6);
        Check.is("utter '" + text + "'", Check.utter(x, 1, 9, text), many + 1);
        row(x, many, 1, 9, thing, how, not);
        x.unsay();
    }

    private static void unclear(EndingTown x, String text) {
        int refused = x.count(9);
        Check.is("utter '" + text + "'", Check.utter(x, 1, 9, text), -1);
        Check.is("'" + text + "' is counted", x.count(9), refused + 1);
    }

    private static void uttering() {
        EndingTown x = Check.of(TEXT);
        clear(x, "nomi", 0, 2, 0);
        clear(x, " \n nomi \n", 0, 2, 0);
        clear(x, "ne nomi", 0, 2, 1);
        clear(x, "\nne\n nomi ", 0, 2, 1);
        clear(x, "katmi", 2, 2, 0);
        clear(x, "noaha", 0, 4, 0);
        unclear(x, "");
        unclear(x, "  \n ");
        unclear(x, "zz");
        unclear(x, "noha");
        clear(x, "kataha", 2, 4, 0);
        unclear(x, "kate");
        unclear(x, "non");
        unclear(x, "noso");
        unclear(x, "unmi");
        unclear(x, "neunmi");
        unclear(x, "nenomi");
        unclear(x, "na nomi");
        unclear(x, "ne ne nomi");
        unclear(x, "ne nomi nomi");
        unclear(x, "nomi ne");
        unclear(x, "Nomi");
        unclear(x, "nomi;");
        unclear(x, "ne ;");
        unclear(x, "ne nomi\t");
        unclear(x, "ne");
        unclear(x, "ne ne");
        notAsWord();
        Check.none("utter by nobody", () -> x.utter(2, 0, 0));
        Check.none("utter at no hour", () -> x.utter(0, 24, 0));
        Check.illegal("utter of too many", () -> x.utter(0, 0, 1));
    }

    /** NOT may be a word of its own, too. */
    private static void notAsWord() {
        EndingTown x = Check.of("stem n;ending 2 0 e;not ne;person;person;thing 0 0 0;");
        clear(x, "ne", 0, 0, 0);
        clear(x, " ne ", 0, 0, 0);
        clear(x, "ne ne", 0, 0, 1);
        unclear(x, "ne ne ne");
        EndingTown y = Check.of("stem n;ending 2 0 e;person;person;thing 0 0 0;");
        clear(y, "ne", 0, 0, 0);
        unclear(y, "ne ne");
        unclear(y, "  !");
        EndingTown z = Check.of("stem a;stem a;ending 2 0 b;ending 2 1 c;stem d;ending 2 2 c;person;person;"
                + "thing 0 0 0;thing 2 0 0;");
        unclear(z, "ab");
        unclear(z, "ac");
        unclear(z, "dc");
        clear(z, "db", 1, 0, 0);
    }
}
