/** Promises 24 and 25: an image of sayings and worlds, and back to it. */
public final class ImageTest {
    public static void main(String[] args) {
        EndingTown x = Check.of("stem a;stem b;places 2;thing 0 0 3;thing 1 1 3 never;person;person;at 1 3 1;at 1 4 0;");
        Check.is("no image", x.restore(), false);
        x.image();
        x.say(0, 5, 0, 0, false);
        x.say(1, 5, 0, 2, false);
        x.say(1, 6, 1, 0, true);
        x.worlds(3);
        x.tell(1, 1, true);
        Check.is("restore", x.restore(), true);
        Check.is("no sayings", x.count(6), 0);
        Check.is("no worlds", x.count(11), 0);
        Check.is("nothing known", x.known(0, 1, 0, false), false);
        x.say(0, 5, 0, 0, false);
        x.say(1, 5, 0, 2, false);
        x.say(1, 6, 1, 0, true);
        x.worlds(3);
        Check.is("tell", x.tell(1, 1, true), 2);
        x.image();
        x.unsay();
        x.unsay();
        x.unsay();
        x.say(1, 1, 1, 1, false);
        x.worlds(1);
        Check.is("wrong now", x.wrong(0), 1);
        x.tell(1, 0, true);
        int refused = x.count(10);
        for (int time = 0; time < 2; time++) {
            Check.is("restore again", x.restore(), true);
            Check.is("sayings", x.count(6), 3);
            int[] due = {1, 6, 1, 0, 1, 1, 1, 2};
            for (int what = 0; what < due.length; what++) {
                Check.is("saying(2, " + what + ")", x.saying(2, what), due[what]);
            }
            Check.is("chain", x.saying(1, 6), 2);
            Check.is("wrong", x.wrong(0), 0);
            Check.is("worlds", x.count(11), 2);
            Check.is("0 knows", x.known(0, 1, 1, true), true);
            Check.is("STATUS stays", x.count(10), refused);
            x.unsay();
            x.say(0, 2, 0, 0, true);
            x.worlds(2);
        }
        Check.village(x, "!");
        Check.is("behind a fault", x.restore(), true);
        Check.village(x, "");
        Check.is("behind a village", x.restore(), false);
        Check.is("no sayings then", x.count(6), 0);
        Check.end();
    }
}
