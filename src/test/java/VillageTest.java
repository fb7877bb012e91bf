/** Promises 6 and 7: where one is, and what a thing is. */
public final class VillageTest {
    public static void main(String[] args) {
        EndingTown x = Check.of("places 4;person;person;person;at 1 5 2;at 1 9 3;at 1 5 1;at 1 20 0;"
                + "at 2 0 3;at 2 23 1;at 1 2 3;stem a;stem b;stem c;"
                + "thing 2 3 23 loud;thing 0 1 0 never;thing 1 0 7 loud never;");
        for (int hour = 0; hour < 24; hour++) {
            Check.is("where 0 at " + hour, x.where(0, hour), 0);
            int due = hour < 2 ? 0 : hour < 5 ? 3 : hour < 9 ? 1 : hour < 20 ? 3 : 0;
            Check.is("where 1 at " + hour, x.where(1, hour), due);
            Check.is("where 2 at " + hour, x.where(2, hour), hour < 23 ? 3 : 1);
        }
        Check.none("no person -1", () -> x.where(-1, 0));
        Check.none("no person 3", () -> x.where(3, 0));
        Check.none("no hour -1", () -> x.where(0, -1));
        Check.none("no hour 24", () -> x.where(0, 24));
        int[][] due = {{2, 3, 23, 1, 0}, {0, 1, 0, 0, 1}, {1, 0, 7, 1, 1}};
        for (int thing = 0; thing < 3; thing++) {
            for (int what = 0; what < 5; what++) {
                Check.is("thing(" + thing + ", " + what + ")", x.thing(thing, what), due[thing][what]);
            }
        }
        Check.none("no thing -1", () -> x.thing(-1, 0));
        Check.none("no thing 3", () -> x.thing(3, 0));
        Check.none("no what -1", () -> x.thing(0, -1));
        Check.none("no what 5", () -> x.thing(0, 5));
        Check.none("no thing, no extremes", () -> x.thing(Integer.MIN_VALUE, Integer.MAX_VALUE));
        Check.end();
    }
}
