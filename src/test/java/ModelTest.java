import java.util.Random;

/** Promises 6, 7, 11, 13 to 23: many random villages and days, held against the model. */
public final class ModelTest {
    public static void main(String[] args) {
        int many = args.length > 1 ? Integer.parseInt(args[1]) : 250;
        for (int seed = 0; seed < many; seed++) {
            Random random = new Random(seed);
            Model m = Model.random(random);
            EndingTown x = Check.of(m.text());
            places(seed, x, m);
            int sayings = sayings(seed, random);
            int hours = random.nextBoolean() ? 5 : 24;
            int hard = random.nextInt(3);
            for (int i = 0; i < sayings; i++) {
                Model.Said s = new Model.Said(random.nextInt(m.people), random.nextInt(hours),
                        random.nextInt(m.things.size()), how(random, hard), random.nextInt(4) == 0);
                m.said.add(s);
                Check.is(seed + " say", x.say(s.person, s.hour, s.thing, s.how, s.not), i + 1);
                if (random.nextInt(4) == 0) {
                    x.wrong(0);
                }
                if (random.nextInt(6) == 0) {
                    m.said.remove(i);
                    i--;
                    sayings--;
                    Check.is(seed + " unsay", x.unsay(), i + 1);
                }
            }
            holding(seed, x, m, random);
            choosing(seed, x, m);
            worlds(seed, x, m, random);
        }
        Check.end();
    }

    /** Few, as a rule; now and then as many as there may be, or as may be mended. */
    private static int sayings(int seed, Random random) {
        switch (seed % 10) {
            case 0: return 20;
            case 5: return 10 + random.nextInt(3);
            default: return random.nextInt(8);
        }
    }

    /** Mostly told and worked out, where it shall be hard. */
    private static int how(Random random, int hard) {
        return hard > 0 && random.nextInt(4) > 0 ? 2 + random.nextInt(hard) : random.nextInt(5);
    }

    private static void places(int seed, EndingTown x, Model m) {
        for (int person = 0; person < m.people; person++) {
            for (int hour = 0; hour < 24; hour++) {
                Check.is(seed + " where " + person + " " + hour, x.where(person, hour), m.where(person, hour));
            }
        }
        for (int thing = 0; thing < m.things.size(); thing++) {
            for (int what = 0; what < 5; what++) {
                int due = what == 0 ? thing : m.things.get(thing)[what - 1];
                Check.is(seed + " thing " + thing + " " + what, x.thing(thing, what), due);
            }
        }
    }

    private static void holding(int seed, EndingTown x, Model m, Random random) {
        int[] chains = m.chains();
        Check.is(seed + " sayings", x.count(6), chains.length);
        Check.is(seed + " wrong(1)", x.wrong(1), m.rings());
        for (int i = 0; i < chains.length; i++) {
            Check.is(seed + " holds " + i, x.saying(i, 5), chains[i] > 0 ? 1 : 0);
            Check.is(seed + " chain " + i, x.saying(i, 6), chains[i]);
            Check.is(seed + " eyes " + i, x.saying(i, 7), m.eyes(i));
        }
        Check.is(seed + " wrong(0)", x.wrong(0), m.unheld());
        for (int k = 0; k < 12; k++) {
            int person = random.nextInt(m.people);
            int hour = random.nextInt(24);
            int thing = random.nextInt(m.things.size());
            boolean not = random.nextInt(4) == 0;
            Check.is(seed + " could " + person + " " + hour + " " + thing + " " + not,
                    x.could(person, hour, thing, not), m.could(person, hour, thing, not));
        }
    }

    private static void choosing(int seed, EndingTown x, Model m) {
        if (m.said.size() <= 12) {
            int[] due = m.mend();
            Check.is(seed + " mend", x.mend(), due[0]);
            for (int i = 0; i < m.said.size(); i++) {
                Check.is(seed + " mended " + i, x.mended(i), due[i + 1]);
            }
            Check.is(seed + " wrong(0) behind mend", x.wrong(0), m.unheld());
        }
        for (int person = 0; person < m.people; person++) {
            for (int thing = 0; thing < m.things.size(); thing++) {
                if ((person + thing) % 3 == 0) {
                    Check.is(seed + " silence " + person + " " + thing, x.silence(person, thing), m.silence(person, thing));
                }
                Check.is(seed + " likely " + person + " " + thing, x.likely(person, thing), m.likely(person, thing));
            }
        }
        Check.is(seed + " wrong(0) as ahead", x.wrong(0), m.unheld());
    }

    private static void worlds(int seed, EndingTown x, Model m, Random random) {
        int some = 1 + random.nextInt((1 << m.things.size()) - 1);
        while (Integer.bitCount(some) > 4) {
            some &= some - 1;
        }
        Check.is(seed + " worlds", x.worlds(some), m.worlds(some));
        for (int k = 0; k < 60; k++) {
            int thing = random.nextInt(m.things.size());
            boolean not = random.nextBoolean();
            if (k % 6 == 5) {
                int person = random.nextInt(m.people);
                Check.is(seed + " tell " + person + " " + thing + " " + not,
                        x.tell(person, thing, not), m.tell(person, thing, not));
            }
            int[] row = new int[1 + random.nextInt(4)];
            int figures = 0;
            for (int i = row.length - 1; i >= 0; i--) {
                row[i] = random.nextInt(m.people);
                figures = 8 * figures + row[i];
            }
            Check.is(seed + " known " + figures + " " + thing + " " + not,
                    x.known(figures, row.length, thing, not), m.known(row, thing, not));
            Check.is(seed + " left", x.count(11), m.left.size());
        }
    }
}
