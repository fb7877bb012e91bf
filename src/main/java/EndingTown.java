import java.util.Arrays;
import java.util.NoSuchElementException;

/** A tongue whose endings tell how one knows, and a village that speaks it. */
public final class EndingTown {
    public static final int NONE = -1;

    private static final int MOST_BYTES = 800;
    private static final int FED_BYTES = 20;
    private static final int MOST_LETTERS = 8;
    private static final int MOST_STEMS = 12;
    private static final int MOST_CHANGES = 6;
    private static final int MOST_PLACES = 6;
    private static final int MOST_PEOPLE = 6;
    private static final int MOST_THINGS = 8;
    private static final int MOST_RULES = 6;
    private static final int MOST_GROUNDS = 3;
    private static final int MOST_SAYINGS = 20;
    private static final int MOST_MENDED = 12;
    private static final int MOST_WORLD_THINGS = 4;
    private static final int MOST_WORLDS = 16;
    private static final int MOST_ROW = 4;
    private static final int HOURS = 24;
    private static final int BYS = 3;
    private static final int ONE = 2;
    private static final int HOWS = 5;
    private static final int SEEN = 0;
    private static final int HEARD = 1;
    private static final int TOLD = 2;
    private static final int WORKED_OUT = 3;
    private static final int DREAMT = 4;
    private static final int MOST_WAYS = MOST_STEMS * BYS * HOWS;
    private static final int MILLION = 1000000;

    private final byte[] tape;
    private int tapeLength;
    private final Town town;
    private final Town draft;
    private final Reader reader;
    private final Ways ways;
    private final Utterance utterance;
    private final Ledger ledger;
    private final Ledger keptLedger;
    private final Minds minds;
    private final Minds keptMinds;
    private boolean imageKept;
    private final Ground ground;
    private final Mender mender;
    private int faultPlace;
    private int refusedTexts;
    private int refusedSayings;
    private int refusedWords;

    public EndingTown() {
        tape = new byte[MOST_BYTES];
        town = new Town();
        draft = new Town();
        reader = new Reader(tape);
        ways = new Ways();
        utterance = new Utterance(tape);
        ledger = new Ledger();
        keptLedger = new Ledger();
        minds = new Minds(town);
        keptMinds = new Minds(town);
        ground = new Ground(town, ledger);
        mender = new Mender(ground, ledger);
        faultPlace = NONE;
    }

    public int feed(int a, int b, int c, int d, int e) {
        if (tapeLength + FED_BYTES > MOST_BYTES) {
            return NONE;
        }
        putBytes(a);
        putBytes(b);
        putBytes(c);
        putBytes(d);
        putBytes(e);
        return tapeLength;
    }

    private void putBytes(int number) {
        for (int shift = 24; shift >= 0; shift -= 8) {
            if (tapeLength < tape.length) {
                tape[tapeLength] = (byte) (number >>> shift);
                tapeLength++;
            }
        }
    }

    public int village(int n) throws IllegalArgumentException {
        takeTape(n);
        int found = reader.read(n, draft);
        faultPlace = reader.faultPlace;
        if (found != 0) {
            refusedTexts++;
            return found;
        }
        town.copyFrom(draft);
        ledger.size = 0;
        minds.clear();
        mender.clear();
        imageKept = false;
        ground.forget();
        return 0;
    }

    /** Empties the tape; its bytes stay readable below n till the next feed. */
    private void takeTape(int n) {
        if (n < 0 || n > tapeLength) {
            throw new IllegalArgumentException();
        }
        tapeLength = 0;
    }

    public int fault() {
        return faultPlace;
    }

    public int count(int what) throws NoSuchElementException {
        switch (what) {
            case 0: return town.tongue.stems;
            case 1: return town.tongue.changes;
            case 2: return town.places;
            case 3: return town.people;
            case 4: return town.things;
            case 5: return town.rules;
            case 6: return ledger.size;
            case 7: return tapeLength;
            case 8: return refusedTexts;
            case 9: return refusedSayings;
            case 10: return refusedWords;
            case 11: return Integer.bitCount(minds.left);
            default: throw new NoSuchElementException();
        }
    }

    public int where(int person, int hour) throws NoSuchElementException {
        needPerson(person);
        needHour(hour);
        return town.placeAt(person, hour);
    }

    private void needPerson(int person) {
        if (!town.hasPerson(person)) {
            throw new NoSuchElementException();
        }
    }

    private void needHour(int hour) {
        if (!Town.isHour(hour)) {
            throw new NoSuchElementException();
        }
    }

    private void needThing(int thing) {
        if (!town.hasThing(thing)) {
            throw new NoSuchElementException();
        }
    }

    public int thing(int thing, int what) throws NoSuchElementException {
        needThing(thing);
        switch (what) {
            case 0: return town.stemOf[thing];
            case 1: return town.placeOf[thing];
            case 2: return town.hourOf[thing];
            case 3: return hasBit(town.loud, thing) ? 1 : 0;
            case 4: return hasBit(town.never, thing) ? 1 : 0;
            default: throw new NoSuchElementException();
        }
    }

    private static boolean hasBit(int bits, int i) {
        return ((bits >>> i) & 1) != 0;
    }

    public int word(int stem, int by, int how, int i) throws NoSuchElementException {
        Tongue tongue = town.tongue;
        if (!tongue.hasStem(stem) || by < 0 || by >= BYS || how < 0 || how >= HOWS) {
            throw new NoSuchElementException();
        }
        int length = tongue.make(stem, by, how);
        if (i == NONE) {
            return length;
        }
        if (i < 0 || i >= length) {
            throw new NoSuchElementException();
        }
        return tongue.made[i];
    }

    public int apart(int n) throws IllegalArgumentException {
        takeTape(n);
        ways.find(town.tongue, tape, 0, n);
        return ways.found;
    }

    public int way(int i) throws NoSuchElementException {
        if (i < 0 || i >= ways.found) {
            throw new NoSuchElementException();
        }
        return ways.rows[i];
    }

    public int say(int person, int hour, int thing, int how, boolean not) throws NoSuchElementException {
        needPerson(person);
        needHour(hour);
        needThing(thing);
        if (how < 0 || how >= HOWS || !ledger.add(person, hour, thing, how, not)) {
            refusedSayings++;
            return NONE;
        }
        ground.forget();
        return ledger.size;
    }

    public int utter(int person, int hour, int n) throws NoSuchElementException, IllegalArgumentException {
        needPerson(person);
        needHour(hour);
        takeTape(n);
        if (!utterance.isClear(n, town)
                || !ledger.add(person, hour, utterance.thing, utterance.how, utterance.not)) {
            refusedSayings++;
            return NONE;
        }
        ground.forget();
        return ledger.size;
    }

    public int unsay() {
        if (ledger.size == 0) {
            return NONE;
        }
        ledger.size--;
        ground.forget();
        return ledger.size;
    }

    public int saying(int saying, int what) throws NoSuchElementException {
        if (saying < 0 || saying >= ledger.size) {
            throw new NoSuchElementException();
        }
        switch (what) {
            case 0: return ledger.person[saying];
            case 1: return ledger.hour[saying];
            case 2: return ledger.thing[saying];
            case 3: return ledger.how[saying];
            case 4: return ledger.not[saying] ? 1 : 0;
            case 5: return ground.chainOf(saying) > 0 ? 1 : 0;
            case 6: return ground.chainOf(saying);
            case 7: return ground.eyesOf(saying);
            default: throw new NoSuchElementException();
        }
    }

    public int could(int person, int hour, int thing, boolean not) throws NoSuchElementException {
        needPerson(person);
        needHour(hour);
        needThing(thing);
        return ground.howsFor(person, hour, thing, not);
    }

    public int wrong(int what) throws NoSuchElementException {
        switch (what) {
            case 0: return ground.unheld();
            case 1: return ground.rings();
            default: throw new NoSuchElementException();
        }
    }

    public int mend() {
        if (ledger.size > MOST_MENDED) {
            return NONE;
        }
        return mender.keepFewest();
    }

    public int mended(int saying) throws NoSuchElementException {
        if (saying < 0 || saying >= mender.size) {
            throw new NoSuchElementException();
        }
        return mender.hows[saying];
    }

    public int silence(int person, int thing) throws NoSuchElementException {
        needPerson(person);
        needThing(thing);
        return ground.fewestSilent(person, thing);
    }

    public int likely(int person, int thing) throws NoSuchElementException {
        needPerson(person);
        needThing(thing);
        int likely = MILLION / 2;
        for (int i = 0; i < ledger.size; i++) {
            if (ledger.thing[i] == thing && ledger.isHeardBy(i, person, town)) {
                likely = town.weighed(likely, ledger.how[i], ledger.not[i]);
            }
        }
        return likely;
    }

    public int worlds(int things) throws IllegalArgumentException {
        int all = (1 << town.things) - 1;
        if (things == 0 || (things & ~all) != 0 || Integer.bitCount(things) > MOST_WORLD_THINGS) {
            throw new IllegalArgumentException();
        }
        minds.open(things);
        return Integer.bitCount(minds.left);
    }

    public int tell(int person, int thing, boolean not) throws NoSuchElementException {
        needPerson(person);
        needThing(thing);
        if (!minds.hear(person, thing, not)) {
            refusedWords++;
            return NONE;
        }
        return Integer.bitCount(minds.left);
    }

    public boolean known(int row, int many, int thing, boolean not)
            throws NoSuchElementException, IllegalArgumentException {
        needThing(thing);
        if (many < 1 || many > MOST_ROW) {
            throw new IllegalArgumentException();
        }
        for (int i = 0; i < many; i++) {
            if (!town.hasPerson(Minds.figure(row, i))) {
                throw new IllegalArgumentException();
            }
        }
        return minds.isKnown(row, many, thing, not);
    }

    public void image() {
        keptLedger.copyFrom(ledger);
        keptMinds.copyFrom(minds);
        imageKept = true;
    }

    public boolean restore() {
        if (!imageKept) {
            return false;
        }
        ledger.copyFrom(keptLedger);
        minds.copyFrom(keptMinds);
        ground.forget();
        return true;
    }

    private static boolean isLetter(byte b) {
        return b >= 'a' && b <= 'z';
    }

    private static boolean isDigit(byte b) {
        return b >= '0' && b <= '9';
    }

    private static boolean isBlank(byte b) {
        return b == 32 || b == 10;
    }

    private static boolean areSame(byte[] a, int aFrom, byte[] b, int bFrom, int many) {
        if (aFrom < 0 || aFrom + many > a.length || bFrom < 0 || bFrom + many > b.length) {
            return false;
        }
        for (int i = 0; i < many; i++) {
            if (a[aFrom + i] != b[bFrom + i]) {
                return false;
            }
        }
        return true;
    }

    /** Stems, endings, changes and NOT, each in a slot of its own, and the words made of them. */
    private static final class Tongue {
        private static final int FIRST_ENDING = MOST_STEMS;
        private static final int FIRST_CHANGE = FIRST_ENDING + BYS * HOWS;
        private static final int NOT_SLOT = FIRST_CHANGE + 3 * MOST_CHANGES;
        private static final int SLOTS = NOT_SLOT + 1;
        private static final int MOST_MADE = 3 * MOST_LETTERS;

        final byte[] letters = new byte[SLOTS * MOST_LETTERS];
        final int[] length = new int[SLOTS];
        int stems;
        int changes;
        final byte[] made = new byte[MOST_MADE];
        int madeLength;

        void clear() {
            Arrays.fill(length, 0);
            stems = 0;
            changes = 0;
        }

        void copyFrom(Tongue other) {
            System.arraycopy(other.letters, 0, letters, 0, letters.length);
            System.arraycopy(other.length, 0, length, 0, length.length);
            stems = other.stems;
            changes = other.changes;
        }

        static int endingSlot(int by, int how) {
            return FIRST_ENDING + HOWS * by + how;
        }

        static int changeSlot(int change, int part) {
            return FIRST_CHANGE + 3 * change + part;
        }

        boolean hasStem(int stem) {
            return stem >= 0 && stem < stems;
        }

        boolean hasEnding(int by, int how) {
            return length[endingSlot(by, how)] > 0;
        }

        boolean hasNot() {
            return length[NOT_SLOT] > 0;
        }

        void put(int slot, byte[] row, int from, int many) {
            if (many > MOST_LETTERS || from < 0 || from + many > row.length) {
                return;
            }
            length[slot] = many;
            System.arraycopy(row, from, letters, slot * MOST_LETTERS, many);
        }

        /** Whether the slot's letters from the i-th on begin with all letters of the part. */
        private boolean standsAt(int slot, int i, int part) {
            return i >= 0 && i + length[part] <= length[slot]
                    && areSame(letters, slot * MOST_LETTERS + i, letters, part * MOST_LETTERS, length[part]);
        }

        private int firstChange(int stem, int ending) {
            for (int change = 0; change < changes; change++) {
                int old = changeSlot(change, 0);
                if (standsAt(stem, length[stem] - length[old], old)
                        && standsAt(ending, 0, changeSlot(change, 1))) {
                    return change;
                }
            }
            return NONE;
        }

        private void add(int slot, int from, int to) {
            for (int i = from; i < to; i++) {
                if (madeLength < MOST_MADE) {
                    made[madeLength] = letters[slot * MOST_LETTERS + i];
                    madeLength++;
                }
            }
        }

        /** Makes the WORD: how many letters, 0 without such an ending. */
        int make(int stem, int by, int how) {
            int ending = endingSlot(by, how);
            madeLength = 0;
            if (length[ending] == 0) {
                return 0;
            }
            int change = firstChange(stem, ending);
            if (change == NONE) {
                add(stem, 0, length[stem]);
                add(ending, 0, length[ending]);
            } else {
                int put = changeSlot(change, 2);
                add(stem, 0, length[stem] - length[changeSlot(change, 0)]);
                add(put, 0, length[put]);
                add(ending, length[changeSlot(change, 1)], length[ending]);
            }
            return madeLength;
        }

        boolean isMade(byte[] row, int from, int many) {
            return many == madeLength && areSame(made, 0, row, from, many);
        }

        boolean isNot(byte[] row, int from, int many) {
            return hasNot() && many == length[NOT_SLOT]
                    && areSame(letters, NOT_SLOT * MOST_LETTERS, row, from, many);
        }
    }

    /** The WAYS of a row of letters. */
    private static final class Ways {
        final int[] rows = new int[MOST_WAYS];
        int found;

        void find(Tongue tongue, byte[] row, int from, int many) {
            found = 0;
            if (many < 1 || many > Tongue.MOST_MADE) {
                return;
            }
            for (int stem = 0; stem < tongue.stems; stem++) {
                for (int by = 0; by < BYS; by++) {
                    for (int how = 0; how < HOWS; how++) {
                        if (tongue.make(stem, by, how) == many && tongue.isMade(row, from, many)) {
                            keep(HOWS * BYS * stem + HOWS * by + how);
                        }
                    }
                }
            }
        }

        private void keep(int row) {
            if (found < rows.length) {
                rows[found] = row;
                found++;
            }
        }
    }

    /** What is told by the tape's bytes, if it is CLEAR. */
    private static final class Utterance {
        private final byte[] bytes;
        private final Ways ways = new Ways();
        private int at;
        private int end;
        boolean not;
        int thing;
        int how;

        Utterance(byte[] bytes) {
            this.bytes = bytes;
        }

        boolean isClear(int n, Town town) {
            at = 0;
            end = Math.min(n, bytes.length);
            not = false;
            skipBlanks();
            int from = at;
            int many = takeWord();
            skipBlanks();
            if (at < end) {
                not = true;
                if (!town.tongue.isNot(bytes, from, many)) {
                    return false;
                }
                from = at;
                many = takeWord();
                skipBlanks();
            }
            if (many == 0 || at < end) {
                return false;
            }
            ways.find(town.tongue, bytes, from, many);
            return isOneWay(town);
        }

        private boolean isOneWay(Town town) {
            if (ways.found != 1) {
                return false;
            }
            int way = ways.rows[0];
            how = way % HOWS;
            thing = town.thingOfStem(way / (HOWS * BYS));
            return way / HOWS % BYS == ONE && thing != NONE;
        }

        private void skipBlanks() {
            while (at < end && isBlank(bytes[at])) {
                at++;
            }
        }

        private int takeWord() {
            int from = at;
            while (at < end && isLetter(bytes[at])) {
                at++;
            }
            return at - from;
        }
    }

    /** Places, people, things and rules, with the tongue that is spoken there. */
    private static final class Town {
        final Tongue tongue = new Tongue();
        int places = 1;
        final int[] near = new int[MOST_PLACES];
        int people;
        final int[] stays = new int[MOST_PEOPLE * HOURS];
        int things;
        final int[] stemOf = new int[MOST_THINGS];
        final int[] placeOf = new int[MOST_THINGS];
        final int[] hourOf = new int[MOST_THINGS];
        int loud;
        int never;
        int rules;
        final int[] head = new int[MOST_RULES];
        final int[] tail = new int[MOST_RULES];
        final int[] chances = new int[2 * HOWS];

        void clear() {
            tongue.clear();
            places = 1;
            people = 0;
            things = 0;
            rules = 0;
            loud = 0;
            never = 0;
            Arrays.fill(near, 0);
            Arrays.fill(stays, NONE);
            Arrays.fill(chances, 500);
        }

        void copyFrom(Town other) {
            tongue.copyFrom(other.tongue);
            places = other.places;
            people = other.people;
            things = other.things;
            rules = other.rules;
            loud = other.loud;
            never = other.never;
            System.arraycopy(other.near, 0, near, 0, near.length);
            System.arraycopy(other.stays, 0, stays, 0, stays.length);
            System.arraycopy(other.stemOf, 0, stemOf, 0, stemOf.length);
            System.arraycopy(other.placeOf, 0, placeOf, 0, placeOf.length);
            System.arraycopy(other.hourOf, 0, hourOf, 0, hourOf.length);
            System.arraycopy(other.head, 0, head, 0, head.length);
            System.arraycopy(other.tail, 0, tail, 0, tail.length);
            System.arraycopy(other.chances, 0, chances, 0, chances.length);
        }

        /** Where 'at' tells nothing of an HOUR, one is where one was. */
        void fillHours() {
            for (int person = 0; person < people; person++) {
                int place = 0;
                for (int hour = 0; hour < HOURS; hour++) {
                    int i = person * HOURS + hour;
                    if (stays[i] == NONE) {
                        stays[i] = place;
                    }
                    place = stays[i];
                }
            }
        }

        static boolean isHour(int hour) {
            return hour >= 0 && hour < HOURS;
        }

        boolean hasPerson(int person) {
            return person >= 0 && person < people;
        }

        boolean hasThing(int thing) {
            return thing >= 0 && thing < things;
        }

        int thingOfStem(int stem) {
            for (int thing = 0; thing < things; thing++) {
                if (stemOf[thing] == stem) {
                    return thing;
                }
            }
            return NONE;
        }

        int placeAt(int person, int hour) {
            if (person < 0 || person >= people || hour < 0 || hour >= HOURS) {
                return NONE;
            }
            return stays[person * HOURS + hour];
        }

        boolean isNear(int a, int b) {
            return a >= 0 && a < places && hasBit(near[a], b);
        }

        boolean wasThere(int person, int thing) {
            return placeAt(person, hourOf[thing]) == placeOf[thing];
        }

        /** HOWS by one's own eyes and ears alone, as bits. */
        int ownHows(int person, int hour, int thing, boolean not) {
            if (hourOf[thing] > hour) {
                return 0;
            }
            int bits = 0;
            if (wasThere(person, thing) && hasBit(never, thing) == not) {
                bits |= 1 << SEEN;
            }
            if (!not && hasBit(loud, thing) && !hasBit(never, thing)
                    && isNear(placeAt(person, hourOf[thing]), placeOf[thing])) {
                bits |= 1 << HEARD;
            }
            return bits;
        }

        /** THINGS that one could say by one's own eyes and ears, as bits. */
        int ownThings(int person, int hour) {
            int bits = 0;
            for (int thing = 0; thing < things; thing++) {
                if (ownHows(person, hour, thing, false) != 0) {
                    bits |= 1 << thing;
                }
            }
            return bits;
        }

        boolean follows(int rule, int thing, int can) {
            return head[rule] == thing && (tail[rule] & ~can) == 0;
        }

        boolean isWorkedOut(int thing, int can) {
            for (int rule = 0; rule < rules; rule++) {
                if (follows(rule, thing, can)) {
                    return true;
                }
            }
            return false;
        }

        /** THINGS that follow at once from those that one can say, as bits. */
        int followers(int can) {
            int bits = 0;
            for (int rule = 0; rule < rules; rule++) {
                if ((tail[rule] & ~can) == 0) {
                    bits |= 1 << head[rule];
                }
            }
            return bits;
        }

        int weighed(int likely, int how, boolean not) {
            long x = not ? MILLION - likely : likely;
            long so = x * chances[2 * how];
            long both = so + (MILLION - x) * chances[2 * how + 1];
            if (both == 0) {
                return likely;
            }
            int next = (int) (so * MILLION / both);
            return not ? MILLION - next : next;
        }
    }

    /** Reads a TEXT, token by token, up to its first FAULT. */
    private static final class Reader {
        private static final int OVER = 0;
        private static final int LETTERS = 1;
        private static final int NUMBER = 2;
        private static final int SEMICOLON = 3;
        private static final int NO_TOKEN = 4;
        private static final int MOST_DIGITS = 3;
        private static final int ANY = 999;

        private final byte[] bytes;
        private int end;
        private int at;
        private int kind;
        private int start;
        private int length;
        private int value;
        private boolean placesTold;
        private boolean placesUsed;
        private int found;
        int faultPlace = NONE;

        Reader(byte[] bytes) {
            this.bytes = bytes;
        }

        /** 0, or the FAULT. */
        int read(int n, Town town) {
            end = Math.min(n, bytes.length);
            at = 0;
            placesTold = false;
            placesUsed = false;
            found = 0;
            faultPlace = NONE;
            town.clear();
            boolean more = true;
            for (int line = 0; more && line <= end; line++) {
                step();
                more = kind != OVER && readLine(town);
            }
            town.fillHours();
            return found;
        }

        private boolean refuse(int fault) {
            found = fault;
            faultPlace = start;
            return false;
        }

        private void step() {
            while (at < end && isBlank(bytes[at])) {
                at++;
            }
            start = at;
            value = 0;
            if (at >= end) {
                kind = OVER;
            } else if (isLetter(bytes[at])) {
                kind = LETTERS;
                while (at < end && isLetter(bytes[at])) {
                    at++;
                }
            } else if (isDigit(bytes[at])) {
                kind = NUMBER;
                takeDigits();
            } else if (bytes[at] == ';') {
                kind = SEMICOLON;
                at++;
            } else {
                kind = NO_TOKEN;
            }
            length = at - start;
        }

        private void takeDigits() {
            while (at < end && isDigit(bytes[at])) {
                if (at - start < MOST_DIGITS) {
                    value = 10 * value + bytes[at] - '0';
                }
                at++;
            }
        }

        private boolean is(String name) {
            if (kind != LETTERS || length != name.length()) {
                return false;
            }
            for (int i = 0; i < name.length(); i++) {
                if (bytes[start + i] != name.charAt(i)) {
                    return false;
                }
            }
            return true;
        }

        private boolean readLine(Town town) {
            if (is("stem")) {
                return stemLine(town.tongue);
            }
            if (is("ending")) {
                return endingLine(town.tongue);
            }
            if (is("change")) {
                return changeLine(town.tongue);
            }
            if (is("not")) {
                return notLine(town.tongue);
            }
            if (is("places")) {
                return placesLine(town);
            }
            if (is("near")) {
                return nearLine(town);
            }
            if (is("person")) {
                return personLine(town);
            }
            if (is("thing")) {
                return thingLine(town);
            }
            if (is("rule")) {
                return ruleLine(town);
            }
            if (is("at")) {
                return atLine(town);
            }
            return is("weigh") ? weighLine(town) : refuse(1);
        }

        /** The next token is LETTERS, and they go into the slot. */
        private boolean letters(Tongue tongue, int slot) {
            step();
            if (kind != LETTERS) {
                return refuse(1);
            }
            if (length > MOST_LETTERS) {
                return refuse(2);
            }
            tongue.put(slot, bytes, start, length);
            return true;
        }

        /** The next token is a NUMBER of at most so much. */
        private boolean number(int most) {
            step();
            return isNumber(most);
        }

        private boolean isNumber(int most) {
            if (kind != NUMBER) {
                return refuse(1);
            }
            return (length <= MOST_DIGITS && value <= most) || refuse(2);
        }

        /** The next token is a NUMBER of one of so many that are told. */
        private boolean oneOf(int many) {
            step();
            return isNumber(ANY) && (value < many || refuse(3));
        }

        private boolean semicolon() {
            step();
            return isSemicolon();
        }

        private boolean isSemicolon() {
            return kind == SEMICOLON || refuse(1);
        }

        private boolean stemLine(Tongue tongue) {
            if (tongue.stems >= MOST_STEMS) {
                return refuse(2);
            }
            if (!letters(tongue, tongue.stems)) {
                return false;
            }
            tongue.stems++;
            return semicolon();
        }

        private boolean endingLine(Tongue tongue) {
            if (!number(BYS - 1)) {
                return false;
            }
            int by = value;
            if (!number(HOWS - 1)) {
                return false;
            }
            int how = value;
            if (tongue.hasEnding(by, how)) {
                return refuse(4);
            }
            return letters(tongue, Tongue.endingSlot(by, how)) && semicolon();
        }

        private boolean changeLine(Tongue tongue) {
            int change = tongue.changes;
            if (change >= MOST_CHANGES) {
                return refuse(2);
            }
            for (int part = 0; part < 3; part++) {
                if (!letters(tongue, Tongue.changeSlot(change, part))) {
                    return false;
                }
            }
            tongue.changes++;
            return semicolon();
        }

        private boolean notLine(Tongue tongue) {
            if (tongue.hasNot()) {
                return refuse(4);
            }
            return letters(tongue, Tongue.NOT_SLOT) && semicolon();
        }

        private boolean placesLine(Town town) {
            if (placesTold) {
                return refuse(4);
            }
            if (placesUsed) {
                return refuse(5);
            }
            placesTold = true;
            if (!number(MOST_PLACES)) {
                return false;
            }
            if (value < 1) {
                return refuse(2);
            }
            town.places = value;
            return semicolon();
        }

        private boolean nearLine(Town town) {
            placesUsed = true;
            if (!oneOf(town.places)) {
                return false;
            }
            int first = value;
            if (!oneOf(town.places)) {
                return false;
            }
            if (value == first) {
                return refuse(4);
            }
            town.near[first] |= 1 << value;
            town.near[value] |= 1 << first;
            return semicolon();
        }

        private boolean personLine(Town town) {
            if (town.people >= MOST_PEOPLE) {
                return refuse(2);
            }
            town.people++;
            return semicolon();
        }

        private boolean thingLine(Town town) {
            placesUsed = true;
            int thing = town.things;
            if (thing >= MOST_THINGS) {
                return refuse(2);
            }
            if (!oneOf(town.tongue.stems)) {
                return false;
            }
            if (town.thingOfStem(value) != NONE) {
                return refuse(4);
            }
            town.stemOf[thing] = value;
            if (!oneOf(town.places)) {
                return false;
            }
            town.placeOf[thing] = value;
            if (!number(HOURS - 1)) {
                return false;
            }
            town.hourOf[thing] = value;
            town.things++;
            return thingSigns(town, thing);
        }

        private boolean thingSigns(Town town, int thing) {
            step();
            if (is("loud")) {
                town.loud |= 1 << thing;
                step();
            }
            if (is("never")) {
                town.never |= 1 << thing;
                step();
            }
            return isSemicolon();
        }

        private boolean ruleLine(Town town) {
            int rule = town.rules;
            if (rule >= MOST_RULES) {
                return refuse(2);
            }
            if (!oneOf(town.things)) {
                return false;
            }
            town.head[rule] = value;
            town.tail[rule] = 0;
            step();
            for (int told = 0; told <= MOST_GROUNDS && (told == 0 || kind == NUMBER); told++) {
                if (!ruleGround(town, rule, told)) {
                    return false;
                }
                step();
            }
            town.rules++;
            return isSemicolon();
        }

        /** The token at hand is a THING that the rule's first one follows from, behind so many. */
        private boolean ruleGround(Town town, int rule, int told) {
            if (!isNumber(ANY)) {
                return false;
            }
            if (told >= MOST_GROUNDS) {
                return refuse(2);
            }
            if (value >= town.things) {
                return refuse(3);
            }
            if (value == town.head[rule] || hasBit(town.tail[rule], value)) {
                return refuse(4);
            }
            town.tail[rule] |= 1 << value;
            return true;
        }

        private boolean atLine(Town town) {
            placesUsed = true;
            if (!oneOf(town.people)) {
                return false;
            }
            int person = value;
            if (!number(HOURS - 1)) {
                return false;
            }
            int hour = value;
            if (!oneOf(town.places)) {
                return false;
            }
            town.stays[person * HOURS + hour] = value;
            return semicolon();
        }

        private boolean weighLine(Town town) {
            if (!number(HOWS - 1)) {
                return false;
            }
            int how = value;
            if (!number(1000)) {
                return false;
            }
            town.chances[2 * how] = value;
            if (!number(1000)) {
                return false;
            }
            town.chances[2 * how + 1] = value;
            return semicolon();
        }
    }

    /** The SAYINGS, in order. */
    private static final class Ledger {
        int size;
        final int[] person = new int[MOST_SAYINGS];
        final int[] hour = new int[MOST_SAYINGS];
        final int[] thing = new int[MOST_SAYINGS];
        final int[] how = new int[MOST_SAYINGS];
        final boolean[] not = new boolean[MOST_SAYINGS];

        /** False, and nothing is added, if it is full. */
        boolean add(int who, int when, int what, int by, boolean isNot) {
            if (size >= MOST_SAYINGS) {
                return false;
            }
            person[size] = who;
            hour[size] = when;
            thing[size] = what;
            how[size] = by;
            not[size] = isNot;
            size++;
            return true;
        }

        void copyFrom(Ledger other) {
            size = other.size;
            System.arraycopy(other.person, 0, person, 0, person.length);
            System.arraycopy(other.hour, 0, hour, 0, hour.length);
            System.arraycopy(other.thing, 0, thing, 0, thing.length);
            System.arraycopy(other.how, 0, how, 0, how.length);
            for (int i = 0; i < not.length; i++) {
                not[i] = other.not[i];
            }
        }

        /** Whether the SAYING was said to this one by another one. */
        boolean isHeardBy(int saying, int who, Town town) {
            return person[saying] != who
                    && town.placeAt(who, hour[saying]) == town.placeAt(person[saying], hour[saying]);
        }

        int every() {
            return (1 << size) - 1;
        }
    }

    /** Which SAYINGS hold, round by round from the ground up. */
    private static final class Ground {
        /** Each round but the last brings a SAYING, or a THING that a SAYING's person could say. */
        private static final int MOST_ROUNDS = MOST_SAYINGS + MOST_SAYINGS * MOST_THINGS + 1;
        private static final int MOST_TURNS = MOST_PEOPLE * MOST_ROUNDS;

        private final Town town;
        private final Ledger ledger;
        /** By SAYING: the SAYINGS that its person has heard by its HOUR. */
        private final int[] heard = new int[MOST_SAYINGS];
        /** By SAYING: the THINGS that its person could say by eyes and ears alone. */
        private final int[] bare = new int[MOST_SAYINGS];
        private final int[] ownHows = new int[MOST_SAYINGS];
        /** By THING and NOT: the SAYINGS of it. */
        private final int[] about = new int[2 * MOST_THINGS];
        /** By SAYING: the SAYINGS by which its person could be told the same, if they hold. */
        private final int[] tellers = new int[MOST_SAYINGS];
        /** By SAYING: the THINGS that its person could say, by the rounds so far. */
        private final int[] can = new int[MOST_SAYINGS];
        private final int[] chain = new int[MOST_SAYINGS];
        final int[] risenBy = new int[MOST_SAYINGS];
        private final int[] eyes = new int[MOST_SAYINGS];
        private final int[] thingEyes = new int[MOST_SAYINGS * MOST_THINGS];
        private int dreamt;
        int held;
        /** What holds and is not by DREAMT: what one can be told by. */
        int solid;
        private boolean settled;
        private boolean eyesOpen;

        Ground(Town town, Ledger ledger) {
            this.town = town;
            this.ledger = ledger;
        }

        void forget() {
            settled = false;
        }

        private void settle() {
            if (settled) {
                return;
            }
            lay();
            rise(0, ledger.every());
            settled = true;
            eyesOpen = false;
        }

        int chainOf(int saying) {
            settle();
            return chain[saying];
        }

        int eyesOf(int saying) {
            settle();
            if (!eyesOpen) {
                openEyes();
            }
            return eyes[saying];
        }

        int unheld() {
            settle();
            return ledger.every() & ~held;
        }

        /** Readies all that doesn't hang on which SAYINGS hold. */
        void lay() {
            Arrays.fill(about, 0);
            dreamt = 0;
            for (int i = 0; i < ledger.size; i++) {
                int person = ledger.person[i];
                int hour = ledger.hour[i];
                heard[i] = heardBy(person, hour);
                bare[i] = town.ownThings(person, hour);
                ownHows[i] = town.ownHows(person, hour, ledger.thing[i], ledger.not[i]);
                about[aboutRow(ledger.thing[i], ledger.not[i])] |= 1 << i;
                if (ledger.how[i] == DREAMT) {
                    dreamt |= 1 << i;
                }
            }
            for (int i = 0; i < ledger.size; i++) {
                tellers[i] = heard[i] & about[aboutRow(ledger.thing[i], ledger.not[i])];
            }
        }

        private static int aboutRow(int thing, boolean not) {
            return 2 * thing + (not ? 1 : 0);
        }

        private int heardBy(int person, int hour) {
            int bits = 0;
            for (int i = 0; i < ledger.size; i++) {
                if (ledger.hour[i] <= hour && ledger.isHeardBy(i, person, town)) {
                    bits |= 1 << i;
                }
            }
            return bits;
        }

        /** Of the SAYINGS that are left; a changed one holds by the first HOW that it can but DREAMT. */
        void rise(int changed, int left) {
            held = 0;
            solid = 0;
            Arrays.fill(can, 0);
            Arrays.fill(chain, 0);
            boolean moved = true;
            for (int round = 1; moved && round <= MOST_ROUNDS; round++) {
                int rising = rising(changed, left & ~held, round);
                boolean widened = widenAll(changed, left & ~held);
                moved = widened || rising != 0;
                held |= rising;
                solid = held & (~dreamt | changed);
            }
        }

        /** SAYINGS of those waiting that hold by what held in the rounds ahead. */
        private int rising(int changed, int waiting, int round) {
            int bits = 0;
            for (int i = 0; i < ledger.size; i++) {
                if (!hasBit(waiting, i)) {
                    continue;
                }
                int hows = standingHows(i, solid, can[i]);
                int how = hasBit(changed, i) ? firstBit(hows) : ledger.how[i];
                if (hasBit(hows, how) && (how != DREAMT || !hasBit(changed, i))) {
                    bits |= 1 << i;
                    chain[i] = round;
                    risenBy[i] = how;
                }
            }
            return bits;
        }

        private static int firstBit(int hows) {
            int how = SEEN;
            while (how < DREAMT && !hasBit(hows, how)) {
                how++;
            }
            return how;
        }

        /** HOWS by which a SAYING stands, if these are what one is told by and these one could say. */
        private int standingHows(int saying, int told, int sayable) {
            int bits = (1 << DREAMT) | ownHows[saying];
            if ((tellers[saying] & told) != 0) {
                bits |= 1 << TOLD;
            }
            if (!ledger.not[saying] && town.isWorkedOut(ledger.thing[saying], sayable)) {
                bits |= 1 << WORKED_OUT;
            }
            return bits;
        }

        private boolean widenAll(int changed, int waiting) {
            boolean moved = false;
            for (int i = 0; i < ledger.size; i++) {
                if (hasBit(waiting, i) && (ledger.how[i] == WORKED_OUT || hasBit(changed, i))) {
                    int wider = widened(can[i], heard[i] & solid, bare[i]);
                    moved = moved || wider != can[i];
                    can[i] = wider;
                }
            }
            return moved;
        }

        /** One round more of the THINGS that one could say, told by these SAYINGS. */
        private int widened(int sayable, int told, int own) {
            int bits = sayable | own | town.followers(sayable);
            for (int thing = 0; told != 0 && thing < town.things; thing++) {
                if ((about[aboutRow(thing, false)] & told) != 0) {
                    bits |= 1 << thing;
                }
            }
            return bits;
        }

        private int widest(int told, int own) {
            int bits = widened(0, told, own);
            int wider = widened(bits, told, own);
            for (int round = 0; wider != bits && round < MOST_THINGS; round++) {
                bits = wider;
                wider = widened(bits, told, own);
            }
            return wider;
        }

        private void openEyes() {
            Arrays.fill(eyes, 0);
            Arrays.fill(thingEyes, 0);
            for (int i = 0; i < ledger.size; i++) {
                can[i] = widest(heard[i] & solid, bare[i]);
            }
            boolean moved = true;
            for (int turn = 0; moved && turn < MOST_TURNS; turn++) {
                moved = false;
                for (int i = 0; i < ledger.size; i++) {
                    boolean opened = ledger.how[i] == WORKED_OUT && openThingEyes(i);
                    int seen = hasBit(held, i) ? eyesNow(i) : 0;
                    moved = moved || opened || seen != eyes[i];
                    eyes[i] = seen;
                }
            }
            eyesOpen = true;
        }

        private int eyesNow(int saying) {
            switch (ledger.how[saying]) {
                case SEEN:
                case HEARD:
                    return 1 << ledger.person[saying];
                case TOLD:
                    return eyesOfAll(tellers[saying] & solid);
                case WORKED_OUT:
                    return ruleEyes(saying, ledger.thing[saying]);
                default:
                    return 0;
            }
        }

        private int eyesOfAll(int sayings) {
            int bits = 0;
            for (int i = 0; i < ledger.size; i++) {
                if (hasBit(sayings, i)) {
                    bits |= eyes[i];
                }
            }
            return bits;
        }

        /** Eyes of each THING that the SAYING's person could say. */
        private boolean openThingEyes(int saying) {
            boolean moved = false;
            for (int thing = 0; thing < town.things; thing++) {
                int row = saying * MOST_THINGS + thing;
                int seen = thingEyes[row] | ruleEyes(saying, thing)
                        | eyesOfAll(heard[saying] & about[aboutRow(thing, false)] & solid);
                if (hasBit(bare[saying], thing)) {
                    seen |= 1 << ledger.person[saying];
                }
                moved = moved || seen != thingEyes[row];
                thingEyes[row] = seen;
            }
            return moved;
        }

        private int ruleEyes(int saying, int thing) {
            int bits = 0;
            for (int rule = 0; rule < town.rules; rule++) {
                if (town.follows(rule, thing, can[saying])) {
                    bits |= tailEyes(saying, town.tail[rule]);
                }
            }
            return bits;
        }

        private int tailEyes(int saying, int tail) {
            int bits = 0;
            for (int thing = 0; thing < town.things; thing++) {
                if (hasBit(tail, thing)) {
                    bits |= thingEyes[saying * MOST_THINGS + thing];
                }
            }
            return bits;
        }

        int howsFor(int person, int hour, int thing, boolean not) {
            settle();
            int bits = (1 << DREAMT) | town.ownHows(person, hour, thing, not);
            int told = heardBy(person, hour) & solid;
            if ((told & about[aboutRow(thing, not)]) != 0) {
                bits |= 1 << TOLD;
            }
            if (!not && town.isWorkedOut(thing, widest(told, town.ownThings(person, hour)))) {
                bits |= 1 << WORKED_OUT;
            }
            return bits;
        }

        int rings() {
            settle();
            int left = ledger.every();
            for (int turn = 0; turn <= MOST_SAYINGS; turn++) {
                left = standing(left, left & ~dreamt);
            }
            return left & ~held;
        }

        /** Which of the SAYINGS stand by their own HOW, if these are what one is told by. */
        int standing(int sayings, int told) {
            int bits = 0;
            for (int i = 0; i < ledger.size; i++) {
                if (!hasBit(sayings, i)) {
                    continue;
                }
                int sayable = ledger.how[i] == WORKED_OUT ? widest(heard[i] & told, bare[i]) : 0;
                if (hasBit(standingHows(i, told, sayable), ledger.how[i])) {
                    bits |= 1 << i;
                }
            }
            return bits;
        }

        int fewestSilent(int person, int thing) {
            lay();
            forget();
            int told = heardBy(person, HOURS - 1) & about[aboutRow(thing, false)];
            int others = ((1 << town.people) - 1) & ~(1 << person);
            int many = Integer.bitCount(others);
            for (int few = 0; few < many; few++) {
                int silent = 0;
                for (int k = 0; k < 1 << many; k++) {
                    if (Integer.bitCount(silent) == few && !isTold(told, silent)) {
                        return silent;
                    }
                    silent = (silent - others) & others;
                }
            }
            return others;
        }

        private boolean isTold(int told, int silent) {
            int left = 0;
            for (int i = 0; i < ledger.size; i++) {
                if (!hasBit(silent, ledger.person[i])) {
                    left |= 1 << i;
                }
            }
            rise(0, left);
            return (solid & told) != 0;
        }
    }

    /** The fewest endings changed so that all else holds. */
    private static final class Mender {
        private final Ground ground;
        private final Ledger ledger;
        final int[] hows = new int[MOST_MENDED];
        /** How many SAYINGS the MEND that is kept has; NONE: none is kept. */
        int size = NONE;

        Mender(Ground ground, Ledger ledger) {
            this.ground = ground;
            this.ledger = ledger;
        }

        void clear() {
            size = NONE;
        }

        int keepFewest() {
            ground.lay();
            ground.forget();
            int changed = fewest();
            ground.rise(changed, ledger.every());
            size = Math.min(ledger.size, MOST_MENDED);
            for (int i = 0; i < size; i++) {
                if (!hasBit(changed, i)) {
                    hows[i] = ledger.how[i];
                } else {
                    hows[i] = hasBit(ground.held, i) ? ground.risenBy[i] : DREAMT;
                }
            }
            return Integer.bitCount(changed);
        }

        private int fewest() {
            int every = ledger.every();
            ground.rise(every, every);
            int reachable = ground.held;
            int must = every & ~ground.standing(every, reachable);
            ground.rise(must, every);
            // what is solid already, or never can be, helps nobody by being changed
            int helpful = every & ~must & reachable & ~ground.solid;
            int many = Integer.bitCount(helpful);
            for (int few = 0; few < many; few++) {
                int more = 0;
                for (int k = 0; k < 1 << many; k++) {
                    int changed = must | more;
                    if (Integer.bitCount(more) == few) {
                        ground.rise(changed, every);
                        if ((ground.held | changed) == every) {
                            return changed;
                        }
                    }
                    more = (more - helpful) & helpful;
                }
            }
            return must | helpful;
        }
    }

    /** WORLDS left, of some THINGS, and what one knows in them. */
    private static final class Minds {
        private final Town town;
        private int things;
        /** Bit w: the WORLD w, in which the i-th of the THINGS is so, if bit i of w is. */
        int left;

        Minds(Town town) {
            this.town = town;
        }

        void clear() {
            things = 0;
            left = 0;
        }

        void copyFrom(Minds other) {
            things = other.things;
            left = other.left;
        }

        void open(int some) {
            things = some;
            left = (1 << (1 << Integer.bitCount(some))) - 1;
        }

        static int figure(int row, int i) {
            return (row >>> (3 * i)) & 7;
        }

        private int slot(int thing) {
            return Integer.bitCount(things & ((1 << thing) - 1));
        }

        private int realWorld() {
            int world = 0;
            for (int thing = 0; thing < town.things; thing++) {
                if (hasBit(things & ~town.never, thing)) {
                    world |= 1 << slot(thing);
                }
            }
            return world;
        }

        private int distinguished(int person) {
            int bits = 0;
            for (int thing = 0; thing < town.things; thing++) {
                if (hasBit(things, thing) && town.wasThere(person, thing)) {
                    bits |= 1 << slot(thing);
                }
            }
            return bits;
        }

        private int worldsWith(int thing, boolean not) {
            int slot = slot(thing);
            int bits = 0;
            for (int world = 0; world < MOST_WORLDS; world++) {
                if (hasBit(world, slot) != not) {
                    bits |= 1 << world;
                }
            }
            return bits & left;
        }

        /** WORLDS left in which the person knows that it is one of these. */
        private int knowing(int person, int some) {
            int told = distinguished(person);
            int bits = 0;
            for (int world = 0; world < MOST_WORLDS; world++) {
                if (hasBit(left, world) && (alike(world, told) & ~some) == 0) {
                    bits |= 1 << world;
                }
            }
            return bits;
        }

        private int alike(int world, int told) {
            int bits = 0;
            for (int other = 0; other < MOST_WORLDS; other++) {
                if (hasBit(left, other) && ((other ^ world) & told) == 0) {
                    bits |= 1 << other;
                }
            }
            return bits;
        }

        /** False, and all stays, if the person doesn't know it. */
        boolean hear(int person, int thing, boolean not) {
            if (!hasBit(things, thing)) {
                return false;
            }
            int knowing = knowing(person, worldsWith(thing, not));
            if (!hasBit(knowing, realWorld())) {
                return false;
            }
            left = knowing;
            return true;
        }

        boolean isKnown(int row, int many, int thing, boolean not) {
            if (!hasBit(things, thing)) {
                return false;
            }
            int some = worldsWith(thing, not);
            for (int i = many - 1; i >= 0; i--) {
                some = knowing(figure(row, i), some);
            }
            return hasBit(some, realWorld());
        }
    }
}
