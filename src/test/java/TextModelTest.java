import java.util.List;
import java.util.Random;

/** Promises 3, 4, 8 to 10, 12: random texts, right and wrong ones, held against the model. */
public final class TextModelTest {
    private static final String[] NAMES = {"stem", "stem", "ending", "ending", "change", "not", "places", "near",
        "person", "thing", "thing", "rule", "at", "weigh"};

    public static void main(String[] args) {
        int many = args.length > 1 ? Integer.parseInt(args[1]) : 4000;
        int[] faults = new int[6];
        for (int seed = 0; seed < many; seed++) {
            Random random = new Random(seed);
            String text = text(random, seed % 3 == 0 ? 0 : random.nextInt(3));
            TextModel m = new TextModel(text);
            EndingTown x = new EndingTown();
            Check.is(seed + " village", Check.village(x, text), m.fault);
            Check.is(seed + " fault", x.fault(), m.place);
            faults[m.fault]++;
            if (m.fault == 0) {
                counts(seed, x, m);
                words(seed, x, m, random);
            }
        }
        for (int fault = 0; fault < 6; fault++) {
            Check.is("some texts of fault " + fault, faults[fault] > 0, true);
        }
        Check.end();
    }

    private static String text(Random random, int wrongs) {
        StringBuilder t = new StringBuilder();
        int lines = random.nextInt(30);
        int[] told = new int[3];
        for (int i = 0; i < lines && t.length() < 740; i++) {
            String good = t.toString();
            for (int tries = 0; tries < 6; tries++) {
                line(t, random, told);
                if (wrongs > 0 && random.nextInt(12) == 0 || new TextModel(t.toString()).fault == 0) {
                    break;
                }
                t.setLength(0);
                t.append(good);
            }
            TextModel now = new TextModel(t.toString());
            told[0] = now.stems.size();
            told[1] = now.thingStems.size();
            told[2] = now.people;
        }
        for (int i = 0; i < wrongs && t.length() > 0; i++) {
            char sign = "abz019; \n!A".charAt(random.nextInt(11));
            int at = random.nextInt(t.length());
            int kind = random.nextInt(3);
            if (kind == 0) {
                t.setCharAt(at, sign);
            } else if (kind == 1) {
                t.insert(at, sign);
            } else {
                t.setLength(at);
            }
        }
        t.setLength(Math.min(t.length(), 800));
        return t.toString();
    }

    private static void line(StringBuilder t, Random random, int[] told) {
        String name = NAMES[random.nextInt(NAMES.length)];
        t.append(name).append(blanks(random));
        switch (name) {
            case "stem": case "not": t.append(letters(random)); break;
            case "ending":
                t.append(random.nextInt(3)).append(' ').append(random.nextInt(5)).append(' ').append(letters(random));
                break;
            case "change":
                t.append(letters(random)).append(' ').append(letters(random)).append(' ').append(letters(random));
                break;
            case "places": t.append(random.nextInt(9)); break;
            case "near": t.append(random.nextInt(4)).append(blanks(random)).append(random.nextInt(4)); break;
            case "person": break;
            case "thing":
                t.append(random.nextInt(told[0] + 1)).append(' ').append(random.nextInt(3)).append(' ')
                        .append(random.nextInt(25)).append(random.nextInt(3) == 0 ? " loud" : "")
                        .append(random.nextInt(3) == 0 ? " never" : "");
                break;
            case "rule":
                for (int i = 1 + random.nextInt(5); i >= 0; i--) {
                    t.append(random.nextInt(told[1] + 1)).append(' ');
                }
                break;
            case "at":
                t.append(random.nextInt(told[2] + 1)).append(' ').append(random.nextInt(25)).append(' ')
                        .append(random.nextInt(3));
                break;
            default:
                t.append(random.nextInt(6)).append(' ').append(random.nextInt(1010)).append(' ')
                        .append(random.nextInt(1010));
                break;
        }
        t.append(random.nextInt(5) == 0 ? " ;\n" : ";");
    }

    private static String blanks(Random random) {
        return random.nextInt(5) > 0 ? " " : random.nextBoolean() ? "\n " : "  \n";
    }

    private static String letters(Random random) {
        int many = random.nextInt(20) == 0 ? 7 + random.nextInt(3) : 1 + random.nextInt(3);
        StringBuilder t = new StringBuilder();
        for (int i = 0; i < many; i++) {
            t.append((char) ('a' + random.nextInt(2)));
        }
        return t.toString();
    }

    private static void counts(int seed, EndingTown x, TextModel m) {
        int[] due = {m.stems.size(), m.changes.size(), m.places, m.people, m.thingStems.size(), m.rules};
        for (int what = 0; what < due.length; what++) {
            Check.is(seed + " count " + what, x.count(what), due[what]);
        }
    }

    private static void words(int seed, EndingTown x, TextModel m, Random random) {
        for (int k = 0; k < 12 && !m.stems.isEmpty(); k++) {
            int stem = random.nextInt(m.stems.size());
            int by = random.nextInt(3);
            int how = random.nextInt(5);
            String word = m.word(stem, by, how);
            String call = seed + " word " + stem + " " + by + " " + how;
            Check.is(call, x.word(stem, by, how, -1), word.length());
            for (int i = 0; i < word.length(); i++) {
                Check.is(call + " " + i, x.word(stem, by, how, i), word.charAt(i));
            }
            String row = random.nextInt(3) == 0 ? letters(random) : word;
            List<Integer> ways = m.ways(row);
            Check.is(seed + " apart " + row, Check.apart(x, row), ways.size());
            for (int i = 0; i < ways.size(); i++) {
                Check.is(seed + " way " + i + " of " + row, x.way(i), ways.get(i));
            }
            if (m.people > 0) {
                utter(seed, x, m, random, row);
            }
        }
    }

    private static void utter(int seed, EndingTown x, TextModel m, Random random, String row) {
        String text = random.nextBoolean() ? row : (m.not == null ? "a" : m.not) + blanks(random) + row;
        if (random.nextInt(4) == 0) {
            text = " " + text + "\n ";
        }
        int[] due = m.uttered(text);
        Check.is(seed + " utter " + text, Check.utter(x, 0, 7, text), due == null ? -1 : 1);
        for (int what = 0; due != null && what < 3; what++) {
            Check.is(seed + " uttered " + text + " " + what, x.saying(0, 2 + what), due[what]);
        }
        x.unsay();
    }
}
