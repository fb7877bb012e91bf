/** Promises 8 to 10: words made, taken apart, and the ways kept. */
public final class WordTest {
    public static void main(String[] args) {
        making();
        longest();
        takingApart();
        wayOrder();
        Check.end();
    }

    private static void word(EndingTown x, int stem, int by, int how, String due) {
        String call = "word(" + stem + ", " + by + ", " + how + ")";
        Check.is(call, x.word(stem, by, how, -1), due.length());
        for (int i = 0; i < due.length(); i++) {
            Check.is(call + " letter " + i, x.word(stem, by, how, i), due.charAt(i));
        }
        Check.none(call + " letter behind", () -> x.word(stem, by, how, due.length()));
        Check.none(call + " letter -2", () -> x.word(stem, by, how, -2));
    }

    private static void making() {
        EndingTown x = Check.of("stem kata;stem no;stem a;stem ta;ending 2 0 ha;ending 0 1 haha;ending 1 4 t;"
                + "change ata h x;change a ha e;change ta ha never;change a haha zz;change o t oo;");
        word(x, 0, 2, 0, "kxa");
        word(x, 0, 0, 1, "kxaha");
        word(x, 0, 1, 4, "katat");
        word(x, 1, 2, 0, "noha");
        word(x, 1, 1, 4, "noo");
        word(x, 2, 2, 0, "e");
        word(x, 2, 0, 1, "eha");
        word(x, 3, 2, 0, "te");
        word(x, 3, 1, 0, "");
        Check.none("no stem -1", () -> x.word(-1, 0, 0, -1));
        Check.none("no stem 4", () -> x.word(4, 0, 0, -1));
        Check.none("no by -1", () -> x.word(0, -1, 0, -1));
        Check.none("no by 3", () -> x.word(0, 3, 0, -1));
        Check.none("no how -1", () -> x.word(0, 0, -1, -1));
        Check.none("no how 5", () -> x.word(0, 0, 5, -1));
    }

    private static void longest() {
        EndingTown x = Check.of("stem abcdefgh;ending 0 0 ijklmnop;ending 0 1 jklmnopq;change h i rstuvwxy;"
                + "change abcdefgh jklmnopq z;");
        word(x, 0, 0, 0, "abcdefgrstuvwxyjklmnop");
        word(x, 0, 0, 1, "z");
        Check.is("the longest apart", Check.apart(x, "abcdefgrstuvwxyjklmnop"), 1);
        Check.is("longer than any", Check.apart(x, "abcdefgrstuvwxyjklmnopq"), 0);
        Check.is("much longer", Check.apart(x, "abcdefgh".repeat(100)), 0);
        Check.is("a whole change", Check.apart(x, "z"), 1);
        Check.is("its way", x.way(0), 1);
    }

    private static void takingApart() {
        EndingTown x = Check.of("stem ka;stem kat;stem k;stem ka;ending 0 0 ta;ending 1 2 a;ending 2 4 ata;"
                + "change x x x;");
        Check.is("kata", Check.apart(x, "kata"), 4);
        Check.is("way 0", x.way(0), 0);
        Check.is("way 1", x.way(1), 15 + 5 + 2);
        Check.is("way 2", x.way(2), 30 + 10 + 4);
        Check.is("way 3", x.way(3), 45);
        Check.none("way 4", () -> x.way(4));
        Check.none("way -1", () -> x.way(-1));
        Check.illegal("apart(1) of an empty tape", () -> x.apart(1));
        Check.is("the ways stay", x.way(3), 45);
    }

    private static void wayOrder() {
        EndingTown x = Check.of("stem a;stem a;ending 2 0 b;ending 1 4 b;ending 1 3 b;ending 0 4 b;");
        int[] due = {4, 8, 9, 10, 19, 23, 24, 25};
        Check.is("ab", Check.apart(x, "ab"), due.length);
        for (int i = 0; i < due.length; i++) {
            Check.is("way " + i, x.way(i), due[i]);
        }
        Check.is("a", Check.apart(x, "a"), 0);
        Check.none("no ways are left", () -> x.way(0));
        Check.is("abb", Check.apart(x, "abb"), 0);
        Check.is("a blank is no letter", Check.apart(x, "ab "), 0);
        Check.is("a blank ahead", Check.apart(x, " ab"), 0);
        Check.is("upper case", Check.apart(x, "Ab"), 0);
        Check.is("nothing", Check.apart(x, ""), 0);
        Check.feed(x, "abz");
        Check.is("the first two bytes", x.apart(2), 8);
    }
}
