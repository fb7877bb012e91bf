import java.util.NoSuchElementException;
import java.util.Random;

/** Every call in any state with any arguments: none but the document's exceptions comes out, and each where due. */
public final class StressTest {
    private static final int[] ODD = {-1, -2, Integer.MIN_VALUE, Integer.MAX_VALUE, 24, 23, 8, 9, 20, 21, 801, 1 << 30};
    private static final String[] TEXTS = {
        "stem a;stem b;stem ab;ending 2 0 b;ending 2 1 a;ending 2 2 c;ending 2 3 bb;ending 2 4 d;change a b c;not n;"
            + "places 3;near 0 1;near 2 1;person;person;person;thing 0 1 2 loud;thing 1 0 3;thing 2 2 1 loud never;"
            + "rule 0 1;rule 1 0 2;rule 2 1;at 0 2 1;at 1 3 2;at 2 5 1;at 1 8 0;weigh 0 900 10;weigh 1 0 0;",
        "stem a;ending 0 0 a;person;thing 0 0 0;",
        "person;person;person;person;person;person;stem a;stem b;stem c;stem d;stem e;stem f;stem g;stem h;"
            + "thing 0 0 0;thing 1 0 0;thing 2 0 0;thing 3 0 0;thing 4 0 0;thing 5 0 0;thing 6 0 0;thing 7 0 0;"
            + "rule 0 1 2 3;rule 1 2 3 4;rule 2 3 4 5;rule 3 4 5 6;rule 4 5 6 7;rule 5 0;",
        "", "stem", "stem abcdefghi;", "places 2;places 3;", "near 0 0;", "!"};
    private static final String[] WORDS = {"ac", "n ac", "ba", "abd", "n", "", "zz", "!", " ac", "n n", "aa"};

    public static void main(String[] args) {
        for (int seed = 0; seed < 300; seed++) {
            Random random = new Random(seed);
            EndingTown x = new EndingTown();
            if (seed % 4 != 0) {
                Check.village(x, TEXTS[seed % 3]);
            }
            for (int call = 0; call < 400; call++) {
                int kind = random.nextInt(27);
                String got = outcome(x, kind, random);
                Check.is(seed + " call " + call + " of kind " + kind + " " + got, isDue(kind, got), true);
            }
        }
        Check.end();
    }

    /** Which exceptions the face names for each kind of call. */
    private static boolean isDue(int kind, String got) {
        boolean none = kind != 0 && kind != 1 && kind != 2 && kind != 7 && kind != 11 && kind != 15 && kind != 19
                && kind < 22 && kind != 25;
        boolean illegal = kind == 1 || kind == 7 || kind == 10 || kind == 19 || kind == 21;
        return got.isEmpty() || none && got.equals(NoSuchElementException.class.getName())
                || illegal && got.equals(IllegalArgumentException.class.getName());
    }

    private static int some(Random random, int most) {
        return random.nextInt(25) == 0 ? ODD[random.nextInt(ODD.length)] : random.nextInt(most);
    }

    private static String outcome(EndingTown x, int kind, Random random) {
        try {
            if (kind < 12) {
                first(x, kind, random);
            } else {
                second(x, kind, random);
            }
            return "";
        } catch (RuntimeException e) {
            return e.getClass().getName();
        }
    }

    private static void first(EndingTown x, int kind, Random random) {
        int person = some(random, 3);
        int hour = some(random, 24);
        int thing = some(random, 3);
        switch (kind) {
            case 0: x.feed(random.nextInt(), random.nextInt(), 0, -1, 1); break;
            case 1: x.village(some(random, 2) * 400 - 20); break;
            case 2: x.fault(); break;
            case 3: x.count(some(random, 12)); break;
            case 4: x.where(person, hour); break;
            case 5: x.thing(thing, some(random, 6)); break;
            case 6: x.word(thing, some(random, 3), some(random, 5), some(random, 6) - 1); break;
            case 7: x.apart(some(random, 30)); break;
            case 8: x.way(some(random, 4)); break;
            case 9: x.say(person, hour, thing, some(random, 5), random.nextInt(4) == 0); break;
            case 10: x.utter(person, hour, some(random, 30)); break;
            default: x.unsay(); break;
        }
    }

    private static void second(EndingTown x, int kind, Random random) {
        int person = some(random, 3);
        int hour = some(random, 24);
        int thing = some(random, 3);
        switch (kind) {
            case 12: x.saying(some(random, 20), some(random, 9)); break;
            case 13: x.could(person, hour, thing, random.nextBoolean()); break;
            case 14: x.wrong(some(random, 2)); break;
            case 15: x.mend(); break;
            case 16: x.mended(some(random, 12)); break;
            case 17: x.silence(person, thing); break;
            case 18: x.likely(person, thing); break;
            case 19: x.worlds(some(random, 10)); break;
            case 20: x.tell(person, thing, random.nextBoolean()); break;
            case 21: x.known(some(random, 512), some(random, 6), thing, random.nextBoolean()); break;
            case 22: x.image(); break;
            case 23: x.restore(); break;
            case 24: Check.village(x, TEXTS[random.nextInt(TEXTS.length)]); break;
            case 25: Check.apart(x, WORDS[random.nextInt(WORDS.length)]); break;
            default:
                String text = WORDS[random.nextInt(WORDS.length)];
                if (x.count(3) > 0 && x.count(7) < 780) {
                    Check.utter(x, 0, hour >= 0 && hour < 24 ? hour : 3, text);
                }
                break;
        }
    }
}
