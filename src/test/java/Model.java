import java.util.ArrayList;
import java.util.BitSet;
import java.util.List;
import java.util.Random;
import java.util.TreeSet;

/** The document once more, word by word and without care for time: what EndingTown is held against. */
final class Model {
    /** One saying. */
    static final class Said {
        final int person;
        final int hour;
        final int thing;
        final int how;
        final boolean not;

        Said(int person, int hour, int thing, int how, boolean not) {
            this.person = person;
            this.hour = hour;
            this.thing = thing;
            this.how = how;
            this.not = not;
        }
    }

    int places;
    int people;
    final List<int[]> near = new ArrayList<>();
    final List<int[]> ats = new ArrayList<>();
    final List<int[]> things = new ArrayList<>();
    final List<int[]> rules = new ArrayList<>();
    final int[][] weigh = new int[5][2];
    final List<Said> said = new ArrayList<>();

    /** A random village; its stem i is a letter, its thing i is of stem i. */
    static Model random(Random random) {
        Model m = new Model();
        m.places = 1 + random.nextInt(4);
        m.people = 2 + random.nextInt(4);
        int things = 1 + random.nextInt(6);
        int hours = random.nextBoolean() ? 4 : 24;
        for (int i = 0; i < things; i++) {
            m.things.add(new int[] {random.nextInt(m.places), random.nextInt(hours), random.nextInt(2),
                random.nextInt(4) == 0 ? 1 : 0});
        }
        for (int i = random.nextInt(4); i > 0 && m.places > 1; i--) {
            int a = random.nextInt(m.places);
            m.near.add(new int[] {a, (a + 1 + random.nextInt(m.places - 1)) % m.places});
        }
        for (int i = random.nextInt(9); i > 0; i--) {
            m.ats.add(new int[] {random.nextInt(m.people), random.nextInt(hours), random.nextInt(m.places)});
        }
        for (int i = random.nextInt(7); i > 0 && things > 1; i--) {
            m.rules.add(randomRule(random, things));
        }
        for (int[] row : m.weigh) {
            row[0] = random.nextInt(5) == 0 ? 0 : random.nextInt(1000);
            row[1] = random.nextInt(5) == 0 ? 0 : random.nextInt(1000);
        }
        return m;
    }

    private static int[] randomRule(Random random, int things) {
        List<Integer> row = new ArrayList<>();
        int many = 2 + random.nextInt(Math.min(3, things - 1));
        while (row.size() < many) {
            int thing = random.nextInt(things);
            if (!row.contains(thing)) {
                row.add(thing);
            }
        }
        return row.stream().mapToInt(i -> i).toArray();
    }

    String text() {
        StringBuilder t = new StringBuilder("places " + places + ";");
        for (int i = 0; i < things.size(); i++) {
            int[] a = things.get(i);
            t.append("stem ").append((char) ('a' + i)).append(";thing ").append(i).append(' ').append(a[0]).append(' ')
                    .append(a[1]).append(a[2] == 1 ? " loud" : "").append(a[3] == 1 ? " never;" : ";");
        }
        t.append("person;".repeat(people));
        near.forEach(a -> t.append("near ").append(a[0]).append(' ').append(a[1]).append(';'));
        ats.forEach(a -> t.append("at ").append(a[0]).append(' ').append(a[1]).append(' ').append(a[2]).append(';'));
        for (int[] rule : rules) {
            t.append("rule");
            for (int thing : rule) {
                t.append(' ').append(thing);
            }
            t.append(';');
        }
        for (int how = 0; how < 5; how++) {
            t.append("weigh ").append(how).append(' ').append(weigh[how][0]).append(' ').append(weigh[how][1]).append(';');
        }
        return t.toString();
    }

    int where(int person, int hour) {
        for (int h = hour; h >= 0; h--) {
            for (int i = ats.size() - 1; i >= 0; i--) {
                if (ats.get(i)[0] == person && ats.get(i)[1] == h) {
                    return ats.get(i)[2];
                }
            }
        }
        return 0;
    }

    boolean seen(int person, int hour, int thing, boolean not) {
        int[] a = things.get(thing);
        return where(person, a[1]) == a[0] && a[1] <= hour && (a[3] == 1) == not;
    }

    boolean heard(int person, int hour, int thing, boolean not) {
        int[] a = things.get(thing);
        int place = where(person, a[1]);
        boolean close = near.stream().anyMatch(n -> n[0] == place && n[1] == a[0] || n[1] == place && n[0] == a[0]);
        return !not && a[2] == 1 && a[3] == 0 && a[1] <= hour && close;
    }

    /** Whether one who says so at that hour can have it of that saying, if it holds and is no dream. */
    boolean hands(Said s, int person, int hour, int thing, boolean not) {
        return s.person != person && s.thing == thing && s.not == not && s.hour <= hour
                && where(person, s.hour) == where(s.person, s.hour);
    }

    /** ROUNDS of sayings; the HOW of a changed one is put in its place in hows, 4 if by none. */
    int[] rounds(int left, int changed, int[] hows) {
        int many = said.size();
        int[] round = new int[many];
        int[][][][] could = new int[people][24][things.size()][4];
        for (int i = 0; i < many; i++) {
            hows[i] = (changed >> i & 1) == 1 ? 4 : said.get(i).how;
        }
        for (int r = 1; r < 250; r++) {
            int[] next = round.clone();
            int[] nextHows = hows.clone();
            for (int i = 0; i < many; i++) {
                if ((left >> i & 1) == 0 || round[i] > 0) {
                    continue;
                }
                Said s = said.get(i);
                boolean free = (changed >> i & 1) == 1;
                for (int how = 3; how >= 0; how--) {
                    if ((free || s.how == how) && stands(s, how, round, hows, changed, could)) {
                        next[i] = r;
                        nextHows[i] = how;
                    }
                }
                if (!free && s.how == 4) {
                    next[i] = r;
                }
            }
            int[][][][] nextCould = new int[people][24][things.size()][];
            for (int p = 0; p < people; p++) {
                for (int h = 0; h < 24; h++) {
                    for (int t = 0; t < things.size(); t++) {
                        nextCould[p][h][t] = could[p][h][t].clone();
                        Said s = new Said(p, h, t, 0, false);
                        for (int how = 0; how < 4; how++) {
                            if (could[p][h][t][how] == 0 && stands(s, how, round, hows, changed, could)) {
                                nextCould[p][h][t][how] = r;
                            }
                        }
                    }
                }
            }
            boolean same = java.util.Arrays.equals(round, next) && java.util.Arrays.deepEquals(could, nextCould);
            System.arraycopy(next, 0, round, 0, many);
            System.arraycopy(nextHows, 0, hows, 0, many);
            could = nextCould;
            if (same) {
                lastCould = could;
                return round;
            }
        }
        throw new IllegalStateException();
    }

    /** ROUNDS of COULD, by person, hour, thing and how, of the latest rounds(). */
    int[][][][] lastCould;

    private boolean stands(Said s, int how, int[] round, int[] hows, int changed, int[][][][] could) {
        if (how == 0) {
            return seen(s.person, s.hour, s.thing, s.not);
        }
        if (how == 1) {
            return heard(s.person, s.hour, s.thing, s.not);
        }
        if (how == 2) {
            for (int i = 0; i < said.size(); i++) {
                boolean dream = (changed >> i & 1) == 0 && said.get(i).how == 4;
                if (round[i] > 0 && !dream && hands(said.get(i), s.person, s.hour, s.thing, s.not)) {
                    return true;
                }
            }
            return false;
        }
        if (s.not) {
            return false;
        }
        for (int[] rule : rules) {
            if (rule[0] == s.thing && all(rule, could[s.person][s.hour])) {
                return true;
            }
        }
        return false;
    }

    private static boolean all(int[] rule, int[][] could) {
        for (int k = 1; k < rule.length; k++) {
            int[] c = could[rule[k]];
            if (c[0] + c[1] + c[2] + c[3] == 0) {
                return false;
            }
        }
        return true;
    }

    private int everySaying() {
        return (1 << said.size()) - 1;
    }

    int[] chains() {
        return rounds(everySaying(), 0, new int[said.size()]);
    }

    int could(int person, int hour, int thing, boolean not) {
        int[] chain = chains();
        int bits = 16;
        int[] hows = new int[said.size()];
        for (int i = 0; i < said.size(); i++) {
            hows[i] = said.get(i).how;
        }
        for (int how = 0; how < 4; how++) {
            if (stands(new Said(person, hour, thing, how, not), how, chain, hows, 0, lastCould)) {
                bits |= 1 << how;
            }
        }
        return bits;
    }

    /** By walking from the saying to whatever it may lean on. */
    int eyes(int saying) {
        int[] chain = chains();
        if (chain[saying] == 0) {
            return 0;
        }
        Said s = said.get(saying);
        TreeSet<String> walked = new TreeSet<>();
        BitSet found = new BitSet();
        walk(s, s.how, chain, walked, found);
        return found.isEmpty() ? 0 : (int) found.toLongArray()[0];
    }

    private void walk(Said s, int how, int[] chain, TreeSet<String> walked, BitSet found) {
        if (!walked.add(s.person + " " + s.hour + " " + s.thing + " " + s.not + " " + how)) {
            return;
        }
        if (how == 0 && seen(s.person, s.hour, s.thing, s.not) || how == 1 && heard(s.person, s.hour, s.thing, s.not)) {
            found.set(s.person);
        }
        for (int i = 0; how == 2 && i < said.size(); i++) {
            Said other = said.get(i);
            if (chain[i] > 0 && other.how != 4 && hands(other, s.person, s.hour, s.thing, s.not)) {
                walk(other, other.how, chain, walked, found);
            }
        }
        for (int[] rule : rules) {
            if (how == 3 && !s.not && rule[0] == s.thing && all(rule, lastCould[s.person][s.hour])) {
                for (int k = 1; k < rule.length; k++) {
                    for (int by = 0; by < 4; by++) {
                        walk(new Said(s.person, s.hour, rule[k], by, false), by, chain, walked, found);
                    }
                }
            }
        }
    }

    int unheld() {
        int bits = 0;
        int[] chain = chains();
        for (int i = 0; i < said.size(); i++) {
            bits |= chain[i] == 0 ? 1 << i : 0;
        }
        return bits;
    }

    int rings() {
        int left = everySaying();
        while (true) {
            int next = 0;
            for (int i = 0; i < said.size(); i++) {
                if ((left >> i & 1) == 1 && standsFromAbove(said.get(i), left)) {
                    next |= 1 << i;
                }
            }
            if (next == left) {
                return left & unheld();
            }
            left = next;
        }
    }

    private boolean standsFromAbove(Said s, int left) {
        if (s.how == 0) {
            return seen(s.person, s.hour, s.thing, s.not);
        }
        if (s.how == 1) {
            return heard(s.person, s.hour, s.thing, s.not);
        }
        if (s.how == 2) {
            return handed(s.person, s.hour, s.thing, s.not, left);
        }
        return s.how == 4 || !s.not && deduced(s.person, s.hour, s.thing, left, new ArrayList<>());
    }

    private boolean handed(int person, int hour, int thing, boolean not, int left) {
        for (int i = 0; i < said.size(); i++) {
            if ((left >> i & 1) == 1 && said.get(i).how != 4 && hands(said.get(i), person, hour, thing, not)) {
                return true;
            }
        }
        return false;
    }

    /** By a proof in which no thing that is still being worked out is leaned on. */
    private boolean deduced(int person, int hour, int thing, int left, List<Integer> open) {
        open.add(thing);
        boolean found = false;
        for (int[] rule : rules) {
            boolean all = rule[0] == thing;
            for (int k = 1; all && k < rule.length; k++) {
                all = seen(person, hour, rule[k], false) || heard(person, hour, rule[k], false)
                        || handed(person, hour, rule[k], false, left)
                        || !open.contains(rule[k]) && deduced(person, hour, rule[k], left, open);
            }
            found = found || all;
        }
        open.remove(open.size() - 1);
        return found;
    }

    /** How many are changed, and behind it the HOWS. */
    int[] mend() {
        int many = said.size();
        int best = -1;
        for (int set = 0; set < 1 << many; set++) {
            if (best != -1 && Integer.bitCount(set) >= Integer.bitCount(best)) {
                continue;
            }
            int[] round = rounds(everySaying(), set, new int[many]);
            boolean all = true;
            for (int i = 0; i < many; i++) {
                all = all && (round[i] > 0 || (set >> i & 1) == 1);
            }
            if (all) {
                best = set;
            }
        }
        int[] hows = new int[many];
        rounds(everySaying(), best, hows);
        int[] answer = new int[many + 1];
        answer[0] = Integer.bitCount(best);
        System.arraycopy(hows, 0, answer, 1, many);
        return answer;
    }

    int silence(int person, int thing) {
        int best = -1;
        for (int set = 0; set < 1 << people; set++) {
            if ((set >> person & 1) == 1 || best != -1 && Integer.bitCount(set) >= Integer.bitCount(best)) {
                continue;
            }
            int left = 0;
            for (int i = 0; i < said.size(); i++) {
                left |= (set >> said.get(i).person & 1) == 0 ? 1 << i : 0;
            }
            rounds(left, 0, new int[said.size()]);
            if (lastCould[person][23][thing][2] == 0) {
                best = set;
            }
        }
        return best;
    }

    int likely(int person, int thing) {
        long x = 500000;
        for (Said s : said) {
            if (s.thing == thing && s.person != person && where(person, s.hour) == where(s.person, s.hour)) {
                long y = s.not ? 1000000 - x : x;
                long up = y * weigh[s.how][0];
                long both = up + (1000000 - y) * weigh[s.how][1];
                y = both == 0 ? y : up * 1000000 / both;
                x = s.not ? 1000000 - y : y;
            }
        }
        return (int) x;
    }

    /** Worlds left, each as the bits of the things that are so; null: none are told. */
    List<Integer> left = null;
    int worldThings = 0;

    int worlds(int some) {
        worldThings = some;
        left = new ArrayList<>();
        for (int world = 0; world < 256; world++) {
            if ((world & ~some) == 0) {
                left.add(world);
            }
        }
        return left.size();
    }

    private int real() {
        int world = 0;
        for (int t = 0; t < things.size(); t++) {
            world |= things.get(t)[3] == 0 ? 1 << t : 0;
        }
        return world & worldThings;
    }

    private boolean alike(int person, int one, int other) {
        for (int t = 0; t < things.size(); t++) {
            if (where(person, things.get(t)[1]) == things.get(t)[0] && ((one ^ other) >> t & 1) == 1) {
                return false;
            }
        }
        return true;
    }

    private boolean knows(int[] row, int i, int world, int thing, boolean not) {
        if (i == row.length) {
            return (world >> thing & 1) == (not ? 0 : 1);
        }
        for (int other : left) {
            if (alike(row[i], world, other) && !knows(row, i + 1, other, thing, not)) {
                return false;
            }
        }
        return true;
    }

    boolean known(int[] row, int thing, boolean not) {
        return left != null && (worldThings >> thing & 1) == 1 && knows(row, 0, real(), thing, not);
    }

    int tell(int person, int thing, boolean not) {
        int[] row = {person};
        if (!known(row, thing, not)) {
            return -1;
        }
        List<Integer> kept = new ArrayList<>();
        for (int world : left) {
            if (knows(row, 0, world, thing, not)) {
                kept.add(world);
            }
        }
        left = kept;
        return left.size();
    }
}
