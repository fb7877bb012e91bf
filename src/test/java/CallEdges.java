import java.util.function.IntUnaryOperator;

/** Promises 1 to 13: a new object, the tape, the village, words, what is said. */
final class CallEdges {
    private static final String VILLAGE = "stem ab;stem c;ending 2 0 d;ending 0 1 ee;change b d x;not n;places 3;"
            + "near 0 1;person;person;thing 1 2 23 loud;thing 0 1 0 never;rule 0 1;at 1 4 2;";

    private CallEdges() {
    }

    static void tell(Edges edges) {
        newObject(edges);
        feed(edges);
        village(edges);
        villageRefused(edges);
        count(edges);
        whereAndThing(edges);
        word(edges);
        apart(edges);
        say(edges);
        utter(edges);
        utterRefused(edges);
        unsay(edges);
    }

    /** No number but 0 to many - 1 will do, however far off or wrapped round it is. */
    static void noneBeyond(String what, int many, IntUnaryOperator call) {
        int[] odd = {-1, many, many + 1, many + 32, many + 256, many + 65536, -many, Integer.MIN_VALUE, Integer.MAX_VALUE, 32, 64,
            Integer.MIN_VALUE + 1};
        for (int i : odd) {
            if (i < 0 || i >= many) {
                Check.none(what + " " + i, () -> call.applyAsInt(i));
            }
        }
        for (int i = 0; i < many; i++) {
            call.applyAsInt(i);
        }
    }

    private static void newObject(Edges edges) {
        edges.of("Promise 1", "No STEMS, no PEOPLE.", () -> {
            EndingTown x = new EndingTown();
            for (int what = 0; what < 12; what++) {
                Check.is("count(" + what + ")", x.count(what), what == 2 ? 1 : 0);
            }
            Check.none("no STEM 0", () -> x.word(0, 0, 0, -1));
            Check.none("no PERSON 0", () -> x.where(0, 0));
            Check.none("no THING 0", () -> x.thing(0, 0));
            Check.none("no SAYING 0", () -> x.saying(0, 0));
            Check.none("no WAY 0", () -> x.way(0));
            Check.none("no MEND", () -> x.mended(0));
            Check.is("no FAULT", x.fault(), -1);
            Check.is("no image", x.restore(), false);
            Check.is("nothing wrong", x.wrong(0) + x.wrong(1), 0);
            Check.is("an empty tape", x.apart(0), 0);
            Check.illegal("an empty tape", () -> x.village(1));
        }, "int people;", "int people = 1;", "int stems;", "int stems = 1;",
                "int places = 1;", "int places = 0;", "faultPlace = NONE; }", "faultPlace = 0; }");
    }

    private static void feed(Edges edges) {
        edges.of("Promise 2", "Twenty bytes come behind the tape, of each number the highest first: how many it has", () -> {
            EndingTown x = new EndingTown();
            Check.is("feed", x.feed(0x7374656d, 0x20616263, 0x64656667, 0x683b7065, 0x72736f6e), 20);
            Check.is("behind it", x.feed(0x3b656e64, 0x696e6720, 0x30203020, 0x7a3b2020, 0x20202020), 40);
            Check.is("bytes of the tape", x.count(7), 40);
            Check.is("village", x.village(40), 0);
            Check.is("stems", x.count(0), 1);
            Check.is("people", x.count(3), 1);
            Check.is("letters", x.word(0, 0, 0, -1), 9);
            for (int i = 0; i < 8; i++) {
                Check.is("letter " + i, x.word(0, 0, 0, i), 'a' + i);
            }
            Check.is("numbers below 0", x.feed(0x706572ff, -1, Integer.MIN_VALUE, 0, 0), 20);
            Check.is("village", x.village(20), 1);
            x.feed(0x20202020, 0x20202020, 0x20202020, 0x20202020, 0x202020ff);
            Check.is("the lowest byte last", x.village(20), 1);
            Check.is("its place", x.fault(), 19);
        }, "for (int shift = 24; shift >= 0; shift -= 8) {", "for (int shift = 0; shift <= 24; shift += 8) {",
                "return tapeLength; } private void putBytes", "return FED_BYTES; } private void putBytes",
                "putBytes(d); putBytes(e);", "putBytes(e); putBytes(d);");
        edges.of("Promise 2", "NONE, and none come, if it would have more than 800.", () -> {
            EndingTown x = new EndingTown();
            for (int k = 1; k <= 40; k++) {
                Check.is("feed " + k, x.feed(0x20202020, 0x20202020, 0x20202020, 0x20202020, 0x20202020), 20 * k);
            }
            Check.is("the 41st", x.feed(-1, -1, -1, -1, -1), -1);
            Check.is("none came", x.count(7), 800);
            Check.is("the 42nd", x.feed(0, 0, 0, 0, 0), -1);
            Check.is("all blanks still", x.village(800), 0);
            Check.is("empty again", x.feed(0, 0, 0, 0, 0), 20);
        }, "if (tapeLength + FED_BYTES > MOST_BYTES) {", "if (tapeLength + FED_BYTES >= MOST_BYTES) {",
                "if (tapeLength + FED_BYTES > MOST_BYTES) {", "if (tapeLength > MOST_BYTES) {",
                "if (tapeLength + FED_BYTES > MOST_BYTES) { return NONE;",
                        "if (tapeLength + FED_BYTES > MOST_BYTES) { tapeLength = 0; return NONE;",
                "if (tapeLength + FED_BYTES > MOST_BYTES) { return NONE;",
                        "if (tapeLength + FED_BYTES > MOST_BYTES) { tape[799] = (byte) e; return NONE;");
    }

    /** A village with all there can be: sayings, worlds, a mend, ways, an image. */
    private static EndingTown busy() {
        EndingTown x = Check.of(VILLAGE);
        x.say(0, 5, 0, 1, false);
        x.say(1, 5, 0, 2, false);
        x.mend();
        x.worlds(3);
        x.image();
        Check.apart(x, "cd");
        return x;
    }

    private static void asBusy(EndingTown x) {
        int[] due = {2, 1, 3, 2, 2, 1, 2};
        for (int what = 0; what < due.length; what++) {
            Check.is("count(" + what + ") stays", x.count(what), due[what]);
        }
        Check.is("words stay", x.word(0, 2, 0, -1), 2);
        Check.is("worlds stay", x.count(11), 4);
        Check.is("the mend stays", x.mended(1), 4);
        Check.is("ways stay", x.way(0), 25);
        Check.is("people stay where they are", x.where(1, 4), 2);
        Check.is("the image stays", x.restore(), true);
    }

    private static void village(Edges edges) {
        edges.of("Promise 3", "The tape's first n bytes (it is empty then) are a TONGUE and a VILLAGE, all anew: 0", () -> {
            EndingTown x = new EndingTown();
            Check.feed(x, "person;person;foo");
            Check.is("the first 14", x.village(14), 0);
            Check.is("two people", x.count(3), 2);
            Check.is("an empty tape", x.count(7), 0);
            Check.feed(x, "person;");
            Check.is("the first 7 of 20", x.village(7), 0);
            Check.is("anew, not two more", x.count(3), 1);
            Check.is("all of the tape", Check.feed(x, "stem a;person;stem b") == 20 ? x.village(20) : 0, 1);
            Check.is("empty behind a FAULT, too", x.count(7), 0);
            Check.feed(x, "person;");
            Check.is("none of it", x.village(0), 0);
            Check.is("nobody", x.count(3), 0);
            Check.is("an empty tape", x.count(7), 0);
            EndingTown y = Check.of("stem abcdefgh;stem b;ending 0 0 z;change h z y;not n;places 6;near 0 1;person;"
                    + "thing 0 1 3 loud never;thing 1 0 0 loud;rule 0 1;at 0 1 5;weigh 0 9 1;");
            Check.is("another", Check.village(y, "stem abcdefgh;stem b;ending 0 0 z;ending 2 0 q;person;person;places 2;"
                    + "thing 1 1 3 loud;thing 0 0 0;"), 0);
            Check.is("no change", y.word(0, 0, 0, -1), 9);
            Check.is("no CHANGES", y.count(1), 0);
            Check.is("no RULES", y.count(5), 0);
            Check.is("two places", y.count(2), 2);
            Check.is("not near", y.could(0, 9, 0, false), 16);
            Check.is("not moved", y.where(0, 1), 0);
            Check.is("nor later", y.where(0, 9), 0);
            Check.is("not never", y.thing(0, 4) + y.thing(1, 4), 0);
            Check.is("not loud", y.thing(1, 3), 0);
            Check.is("no NOT", Check.utter(y, 0, 0, "n bq"), -1);
            y.say(1, 0, 1, 0, false);
            Check.is("even chances", y.likely(0, 1), 500000);
            Check.is("a third", Check.village(y, "person;"), 0);
            Check.is("one place", y.count(2), 1);
            Check.is("no stems", y.count(0) + y.count(4), 0);
        }, "tapeLength = 0; } public int fault()", "tapeLength -= n; } public int fault()",
                "int found = reader.read(n, draft);", "int found = reader.read(MOST_BYTES, draft);",
                "people = 0;", "", "rules = 0;", "", "tongue.clear(); places = 1;", "tongue.clear();",
                        "Arrays.fill(near, 0);", "", "Arrays.fill(chances, 500);", "",
                "loud = 0;", "", "never = 0;", "", "Arrays.fill(stays, NONE);", "",
                "Arrays.fill(length, 0);", "", "stems = 0; changes = 0; } void copyFrom",
                "stems = 0; } void copyFrom");
        edges.of("Promise 3", "or the FAULT (all stays)", () -> {
            EndingTown x = busy();
            Check.is("a FAULT", Check.village(x, "stem q;stem r;stem s;person;places 2;thing 1 0 5;weigh 0 1 2;foo;"), 1);
            asBusy(x);
            Check.is("a FAULT", Check.village(x, "not a;not b;"), 4);
            asBusy(x);
        }, "if (found != 0) { refusedTexts++;", "town.copyFrom(draft); if (found != 0) { refusedTexts++;",
                "faultPlace = reader.faultPlace;", "faultPlace = reader.faultPlace; mender.clear();",
                "faultPlace = reader.faultPlace;", "faultPlace = reader.faultPlace; minds.clear();",
                "faultPlace = reader.faultPlace;", "faultPlace = reader.faultPlace; ledger.size = 0;",
                "faultPlace = reader.faultPlace;", "faultPlace = reader.faultPlace; imageKept = false;",
                "faultPlace = reader.faultPlace;", "faultPlace = reader.faultPlace; ways.found = 0;",
                "return found; } town", "return 0; } town");
    }

    private static void villageRefused(Edges edges) {
        edges.of("Promise 3", "SAYINGS, WORLDS, MEND, the image are gone (STATUS stays).", () -> {
            EndingTown x = busy();
            x.say(0, 0, 0, 5, false);
            x.tell(1, 1, false);
            Check.village(x, "foo");
            Check.is("the same once more", Check.village(x, VILLAGE), 0);
            Check.is("no SAYINGS", x.count(6), 0);
            Check.is("nothing wrong", x.wrong(0), 0);
            Check.is("no WORLDS", x.count(11), 0);
            Check.is("nothing known", x.known(0, 1, 0, false), false);
            Check.none("no MEND", () -> x.mended(0));
            Check.is("no image", x.restore(), false);
            Check.is("no SAYINGS behind that", x.count(6), 0);
            for (int what = 8; what <= 10; what++) {
                Check.is("STATUS " + (what - 8), x.count(what), 1);
            }
        }, "ledger.size = 0; minds", "minds", "minds.clear(); mender", "mender",
                "mender.clear();", "", "imageKept = false;", "",
                "imageKept = false;", "imageKept = false; refusedTexts = 0;",
                "imageKept = false;", "imageKept = false; refusedSayings = 0;",
                "imageKept = false;", "imageKept = false; refusedWords = 0;");
        edges.of("Promise 3", "IllegalArgumentException: the tape has not so many, n below 0 (nothing changes).", () -> {
            EndingTown x = busy();
            Check.village(x, "    foo");
            Check.feed(x, "person;person;person;");
            int[] odd = {41, 42, 60, 801, 65576, -1, -40, Integer.MIN_VALUE, Integer.MAX_VALUE};
            for (int n : odd) {
                Check.illegal("village(" + n + ")", () -> x.village(n));
                Check.is("the tape stays", x.count(7), 40);
                Check.is("the place of the FAULT stays", x.fault(), 4);
                Check.is("STATUS stays", x.count(8), 1);
            }
            asBusy(x);
            Check.is("all that it has", x.village(40), 0);
            Check.is("three people", x.count(3), 3);
            Check.illegal("an empty one has none", () -> x.village(1));
            Check.is("nothing of it", x.village(0), 0);
        }, "if (n < 0 || n > tapeLength) {", "if (n < 0 || n > MOST_BYTES) {",
                "if (n < 0 || n > tapeLength) {", "if (n > tapeLength) {",
                "if (n < 0 || n > tapeLength) {", "if (n < 0 || n >= tapeLength && n > 0) {",
                "if (n < 0 || n > tapeLength) {", "if (n < 0 || n > tapeLength) { tapeLength = 0;",
                "takeTape(n); int found", "faultPlace = NONE; takeTape(n); int found");
        edges.of("Promise 4", "The place of the latest village()'s FAULT; NONE without.", () -> {
            EndingTown x = new EndingTown();
            Check.is("none as yet", x.fault(), -1);
            Check.village(x, "foo");
            Check.is("at the first byte", x.fault(), 0);
            Check.village(x, "person;" + " ".repeat(792) + "!");
            Check.is("at the last of 800", x.fault(), 799);
            Check.village(x, "stem a;" + " ".repeat(787) + "person");
            Check.is("where 800 end too soon", x.fault(), 800);
            Check.village(x, "person;foo");
            Check.is("the latest", x.fault(), 7);
            Check.apart(x, "!");
            Check.is("still", x.fault(), 7);
            Check.village(x, "person;");
            Check.is("none", x.fault(), -1);
        }, "faultPlace = reader.faultPlace;", "if (reader.faultPlace != NONE) { faultPlace = reader.faultPlace; }",
                "found = 0; faultPlace = NONE;", "found = 0;",
                "faultPlace = NONE; }", "faultPlace = 0; }");
    }

    private static void count(Edges edges) {
        edges.of("Promise 5", "0 STEMS, 1 CHANGES, 2 PLACES, 3 PEOPLE, 4 THINGS, 5 RULES, 6 SAYINGS, 7 bytes of the tape, 8 "
                + "to 10 STATUS 0 to 2, 11 WORLDS left (0: none are told).", () -> {
            EndingTown x = Check.of("stem a;stem b;stem c;stem d;stem e;change a b c;change a b c;"
                    + "places 6;person;person;person;thing 0 0 0;thing 1 0 0;thing 2 0 0;thing 3 0 0;rule 0 1;");
            Check.is("no WORLDS", x.count(11), 0);
            for (int i = 0; i < 7; i++) {
                x.say(0, 0, 0, 0, false);
                x.tell(0, 0, false);
            }
            for (int i = 0; i < 9; i++) {
                x.say(0, 0, 0, -1, false);
            }
            for (int i = 0; i < 8; i++) {
                Check.village(x, "!");
            }
            x.worlds(15);
            x.feed(0, 0, 0, 0, 0);
            x.feed(0, 0, 0, 0, 0);
            int[] due = {5, 2, 6, 3, 4, 1, 7, 40, 8, 9, 7, 16};
            for (int what = 0; what < 12; what++) {
                Check.is("count(" + what + ")", x.count(what), due[what]);
            }
            Check.is("told", x.tell(0, 0, false), 8);
            Check.is("WORLDS left", x.count(11), 8);
        }, "case 11: return Integer.bitCount(minds.left);", "case 11: return 1 << Integer.bitCount(minds.things);",
                "case 5: return town.rules;", "case 5: return town.things;",
                "case 8: return refusedTexts;", "case 8: return refusedSayings;",
                "case 10: return refusedWords;", "case 10: return refusedSayings;");
        edges.of("Promise 5", "NoSuchElementException: another what.", () -> noneBeyond("count", 12, Check.of(VILLAGE)::count),
                "default: throw new NoSuchElementException(); } } public int where",
                        "default: return 0; } } public int where",
                "switch (what) { case 0: return town.tongue.stems;",
                        "switch (what & 15) { case 0: return town.tongue.stems;",
                "case 11: return Integer", "case 11: case 12: return Integer");
    }

    private static void whereAndThing(Edges edges) {
        edges.of("Promise 6", "Where a PERSON is at an HOUR.", () -> {
            EndingTown x = Check.of(VILLAGE);
            Check.is("at the first HOUR", x.where(1, 0), 0);
            Check.is("the HOUR ahead", x.where(1, 3), 0);
            Check.is("that HOUR", x.where(1, 4), 2);
            Check.is("at the last HOUR", x.where(1, 23), 2);
            Check.is("the other", x.where(0, 23), 0);
        }, "return stays[person * HOURS + hour];", "return stays[hour];", "return stays[person * HOURS + hour];",
                "return stays[person * HOURS + hour / 2];");
        edges.of("Promise 6", "NoSuchElementException: no such PERSON, HOUR (as everywhere).", () -> {
            EndingTown x = Check.of(VILLAGE);
            x.worlds(1);
            noneBeyond("where", 2, i -> x.where(i, 0));
            noneBeyond("where at", 24, i -> x.where(0, i));
            noneBeyond("say", 2, i -> x.say(i, 0, 0, 9, false));
            noneBeyond("say at", 24, i -> x.say(0, i, 0, 9, false));
            noneBeyond("utter", 2, i -> x.utter(i, 0, 0));
            noneBeyond("utter at", 24, i -> x.utter(0, i, 0));
            noneBeyond("could", 2, i -> x.could(i, 0, 0, false));
            noneBeyond("could at", 24, i -> x.could(0, i, 0, false));
            noneBeyond("silence", 2, i -> x.silence(i, 0));
            noneBeyond("likely", 2, i -> x.likely(i, 0));
            noneBeyond("tell", 2, i -> x.tell(i, 0, false));
        }, "return person >= 0 && person < people;", "return person < people;",
                "return person >= 0 && person < people;", "return person >= 0 && person <= people;",
                "return hour >= 0 && hour < HOURS;", "return hour >= 0 && hour <= HOURS;",
                "return hour >= 0 && hour < HOURS;", "return hour >= -1 && hour < HOURS;",
                "public int silence(int person, int thing) throws NoSuchElementException { needPerson(person);",
                "public int silence(int person, int thing) throws NoSuchElementException {",
                "public int likely(int person, int thing) throws NoSuchElementException { needPerson(person);",
                "public int likely(int person, int thing) throws NoSuchElementException {",
                "public int tell(int person, int thing, boolean not) throws NoSuchElementException { needPerson(person);",
                "public int tell(int person, int thing, boolean not) throws NoSuchElementException {",
                "boolean not) throws NoSuchElementException { needPerson(person); needHour(hour); needThing(thing); return "
                        + "ground",
                "boolean not) throws NoSuchElementException { needPerson(person); needThing(thing); return ground");
        edges.of("Promise 7", "Of a THING: 0 STEM, 1 PLACE, 2 HOUR, 3 LOUD (1), 4 NEVER (1).", () -> {
            EndingTown x = Check.of(VILLAGE);
            int[][] due = {{1, 2, 23, 1, 0}, {0, 1, 0, 0, 1}};
            for (int i = 0; i < 10; i++) {
                Check.is("thing(" + i / 5 + ", " + i % 5 + ")", x.thing(i / 5, i % 5), due[i / 5][i % 5]);
            }
        }, "case 0: return town.stemOf[thing];", "case 0: return thing;", "case 3: return hasBit(town.loud, thing) ? 1 : 0;",
                "case 3: return town.loud;",
                "case 4: return hasBit(town.never, thing) ? 1 : 0;", "case 4: return town.never;");
        edges.of("Promise 7", "NoSuchElementException: no such THING (as everywhere), what.", () -> {
            EndingTown x = Check.of(VILLAGE);
            x.worlds(3);
            noneBeyond("thing", 2, i -> x.thing(i, 0));
            noneBeyond("thing what", 5, i -> x.thing(0, i));
            noneBeyond("say", 2, i -> x.say(0, 0, i, 9, false));
            noneBeyond("could", 2, i -> x.could(0, 0, i, false));
            noneBeyond("silence", 2, i -> x.silence(0, i));
            noneBeyond("likely", 2, i -> x.likely(0, i));
            noneBeyond("tell", 2, i -> x.tell(0, i, false));
            noneBeyond("known", 2, i -> x.known(0, 1, i, false) ? 1 : 0);
        }, "return thing >= 0 && thing < things;", "return thing >= 0 && thing <= things;",
                "return thing >= 0 && thing < things;", "return thing < things;",
                "default: throw new NoSuchElementException(); } } private static boolean hasBit",
                        "default: return 0; } } private static boolean hasBit",
                "needPerson(person); needThing(thing); int likely", "needPerson(person); int likely",
                "needPerson(person); needThing(thing); if (!minds", "needPerson(person); if (!minds",
                "needThing(thing); if (many < 1", "if (many < 1");
    }

    private static void word(Edges edges) {
        edges.of("Promise 8", "Of a WORD: how many letters (i NONE; 0: there is no such ENDING), the i-th letter (97 to 122).",
                () -> {
            EndingTown x = Check.of("stem az;stem z;ending 2 4 yb;ending 0 0 aaaaaaax;");
            Check.is("letters", x.word(0, 2, 4, EndingTown.NONE), 4);
            Check.is("the first", x.word(0, 2, 4, 0), 97);
            Check.is("the second", x.word(0, 2, 4, 1), 122);
            Check.is("the last", x.word(0, 2, 4, 3), 98);
            Check.is("nine letters", x.word(1, 0, 0, -1), 9);
            Check.is("their last", x.word(1, 0, 0, 8), 120);
            Check.is("no such ENDING", x.word(0, 1, 4, -1), 0);
        }, "if (i == NONE) { return length;", "if (i == NONE) { return length > 0 ? length : NONE;",
                "return tongue.made[i];", "return tongue.made[length - 1 - i];",
                "if (i == NONE) { return length;",
                        "if (i == NONE) { return Math.min(length, MOST_LETTERS);");
        edges.of("Promise 8", "NoSuchElementException: no such STEM, BY, HOW, letter.", () -> {
            EndingTown x = Check.of("stem a;stem b;ending 0 0 c;ending 1 0 c;ending 2 0 c;ending 0 1 c;ending 0 2 c;"
                    + "ending 0 3 c;ending 0 4 c;");
            noneBeyond("STEM", 2, i -> x.word(i, 0, 0, 0));
            noneBeyond("BY", 3, i -> x.word(0, i, 0, 0));
            noneBeyond("HOW", 5, i -> x.word(0, 0, i, 0));
            noneBeyond("letter", 2, i -> i == -1 ? x.word(0, 0, 0, -2) : x.word(0, 0, 0, i));
            Check.none("a letter of no WORD", () -> x.word(0, 1, 1, 0));
            Check.none("a letter -2 of no WORD", () -> x.word(0, 1, 1, -2));
            Check.none("no STEM, how many letters", () -> x.word(2, 0, 0, -1));
            noneBeyond("BY, how many letters", 3, i -> x.word(0, i, 0, -1));
            noneBeyond("HOW, how many letters", 5, i -> x.word(0, 0, i, -1));
        }, "return stem >= 0 && stem < stems;", "return stem >= 0 && stem < MOST_STEMS;",
                "by < 0 || by >= BYS ||", "by < 0 ||", "by < 0 || by >= BYS ||", "by < -1 || by >= BYS ||",
                "|| how < 0 || how >= HOWS) {", "|| how < 0) {", "|| how < 0 || how >= HOWS) {", "|| how < -1 || how >= HOWS) {",
                "if (i < 0 || i >= length) {", "if (i < 0 || i > length) {", "if (i < 0 || i >= length) {", "if (i >= length) {");
    }

    private static void apart(Edges edges) {
        edges.of("Promise 9", "The tape's first n bytes (it is empty then): how many WAYS they have; those stay till the next "
                + "such call", () -> {
            EndingTown x = Check.of(VILLAGE);
            Check.feed(x, "cdx");
            Check.is("the first two bytes", x.apart(2), 1);
            Check.is("an empty tape", x.count(7), 0);
            Check.is("the WAY", x.way(0), 25);
            Check.is("all three", Check.apart(x, "cdx"), 0);
            Check.is("other three", Check.apart(x, "cee"), 1);
            Check.is("two", Check.apart(x, "cd"), 1);
            Check.feed(x, "cd");
            Check.is("it stays", x.way(0), 25);
            x.say(0, 0, 0, 0, false);
            Check.utter(x, 0, 0, "cd");
            Check.utter(x, 0, 0, "ax");
            Check.is("behind an utterance", x.way(0), 25);
            Check.village(x, "!");
            Check.village(x, "");
            Check.is("behind a new village", x.way(0), 25);
            Check.illegal("too many", () -> x.apart(1));
            Check.is("behind a call that is refused", x.way(0), 25);
            Check.is("the next call", x.apart(0), 0);
            Check.none("which has none", () -> x.way(0));
        }, "ways.find(town.tongue, tape, 0, n);", "ways.find(town.tongue, tape, 0, 2);",
                "town.copyFrom(draft);", "town.copyFrom(draft); ways.found = 0;",
                "found = 0; if (many < 1", "found = Math.max(0, found); if (many < 1",
                "public int apart(int n) throws IllegalArgumentException { takeTape(n);",
                        "public int apart(int n) throws IllegalArgumentException { ways.found = 0; takeTape(n);");
        edges.of("Promise 9", "(0 of what isn't all a .. z).", () -> {
            String[] texts = {"", " ", "cd ", " cd", "c d", "Cd", "cD", "c\n", "cd\n", "cd;", "c1", "cd\u0000", "c\u00e4", "c`",
                    "{d", "\u00e3d"};
            EndingTown x = Check.of(VILLAGE);
            for (String text : texts) {
                Check.apart(x, "cd");
                Check.is("apart of '" + text + "'", Check.apart(x, text), 0);
                Check.none("its WAYS", () -> x.way(0));
            }
        }, "if (many < 1 || many > Tongue.MOST_MADE) {", "while (many > 0 && isBlank(row[from + many - 1])) { many--; } if "
                + "(many < 1 || many > Tongue.MOST_MADE) {",
                "if (a[aFrom + i] != b[bFrom + i]) {", "if ((a[aFrom + i] & 31) != (b[bFrom + i] & 31)) {",
                "if (a[aFrom + i] != b[bFrom + i]) {", "if ((a[aFrom + i] & 127) != (b[bFrom + i] & 127)) {");
        edges.of("Promise 9", "IllegalArgumentException: as village().", () -> {
            EndingTown x = Check.of(VILLAGE);
            Check.apart(x, "cd");
            Check.feed(x, "axaxax");
            int[] odd = {21, 40, 801, -1, -20, 65556, Integer.MIN_VALUE, Integer.MAX_VALUE};
            for (int n : odd) {
                Check.illegal("apart(" + n + ")", () -> x.apart(n));
                Check.is("the tape stays", x.count(7), 20);
                Check.is("the WAYS stay", x.way(0), 25);
            }
            Check.is("all that it has", x.apart(20), 0);
            Check.illegal("an empty one", () -> x.apart(1));
        }, "public int apart(int n) throws IllegalArgumentException { takeTape(n);",
                "public int apart(int n) throws IllegalArgumentException { tapeLength = 0;",
                "if (n < 0 || n > tapeLength) {", "if (n > tapeLength) {", "if (n < 0 || n > tapeLength) {",
                        "if (n < 0 || n > tapeLength + 20) {");
        edges.of("Promise 10", "The i-th WAY: 15 by the STEM, 5 by BY, and HOW.", () -> {
            EndingTown x = Check.of(TextEdges.TWELVE_STEMS + "ending 2 4 z;ending 0 0 y;");
            Check.apart(x, "lz");
            Check.is("the greatest", x.way(0), 15 * 11 + 5 * 2 + 4);
            Check.apart(x, "ay");
            Check.is("the least", x.way(0), 0);
        }, "HOWS * BYS * stem + HOWS * by + how", "HOWS * BYS * stem + BYS * by + how", "HOWS * BYS * stem + HOWS * by + how",
                "(HOWS * BYS - 1) * stem + HOWS * by + how");
        edges.of("Promise 10", "NoSuchElementException: there is none.", () -> {
            EndingTown x = Check.of("stem a;stem a;ending 0 0 b;");
            noneBeyond("no call as yet", 0, x::way);
            Check.is("two", Check.apart(x, "ab"), 2);
            noneBeyond("of two", 2, x::way);
            Check.is("none", Check.apart(x, "b"), 0);
            noneBeyond("of none", 0, x::way);
        }, "if (i < 0 || i >= ways.found) {", "if (i < 0 || i > ways.found) {", "if (i < 0 || i >= ways.found) {",
                "if (i >= ways.found) {",
                "if (i < 0 || i >= ways.found) {", "if (i < 0 || i >= MOST_WAYS) {");
    }

    private static void say(Edges edges) {
        edges.of("Promise 11", "A PERSON says a THING: how many SAYINGS there are.", () -> {
            EndingTown x = Check.of(VILLAGE);
            for (int i = 1; i <= 20; i++) {
                Check.is("say", x.say(1, 23, 1, 4, true), i);
                Check.is("SAYINGS", x.count(6), i);
            }
        }, "ground.forget(); return ledger.size; } public int utter",
                "ground.forget(); return ledger.size - 1; } public int utter",
                "if (size >= MOST_SAYINGS) {", "if (size >= MOST_SAYINGS - 1) {");
        edges.of("Promise 11", "NONE (STATUS 1): there are 20, no such HOW.", () -> {
            EndingTown x = Check.of(VILLAGE);
            int[] odd = {5, -1, 6, 37, 261, Integer.MIN_VALUE, Integer.MAX_VALUE};
            for (int i = 0; i < odd.length; i++) {
                Check.is("HOW " + odd[i], x.say(0, 0, 0, odd[i], false), -1);
                Check.is("STATUS 1", x.count(9), i + 1);
            }
            Check.is("none are said", x.count(6), 0);
            for (int i = 0; i < 20; i++) {
                x.say(0, 0, 0, i % 5, false);
            }
            Check.is("the 21st", x.say(0, 0, 0, 0, false), -1);
            Check.is("the 21st by no HOW", x.say(0, 0, 0, 5, false), -1);
            Check.is("STATUS 1", x.count(9), odd.length + 2);
            Check.is("20 stay", x.count(6), 20);
            Check.is("as they were", x.saying(19, 3), 4);
        }, "if (how < 0 || how >= HOWS || !ledger", "if (how < 0 || how > HOWS || !ledger",
                "if (how < 0 || how >= HOWS || !ledger", "if (how >= HOWS || !ledger",
                "if (how < 0 || how >= HOWS || !ledger", "if (how < 0 || how >= HOWS - 1 || !ledger",
                "if (size >= MOST_SAYINGS) { return false;",
                        "if (size >= MOST_SAYINGS) { how[size - 1] = by; return false;");
        edges.of("Promise 11", "NoSuchElementException (ahead): no such PERSON, HOUR, THING.", () -> {
            EndingTown x = Check.of(VILLAGE);
            Check.none("no THING ahead of no HOW", () -> x.say(0, 0, 2, 5, false));
            for (int i = 0; i < 20; i++) {
                x.say(0, 0, 0, 0, false);
            }
            Check.none("no PERSON ahead of 20", () -> x.say(2, 0, 0, 0, false));
            Check.none("no HOUR ahead of 20", () -> x.say(0, 24, 0, 0, false));
            Check.none("no THING ahead of 20", () -> x.say(0, 0, 2, 0, false));
            Check.none("none of all", () -> x.say(-1, -1, -1, -1, false));
            Check.is("none is counted", x.count(9), 0);
            Check.is("nothing changes", x.count(6), 20);
        }, "needThing(thing); if (how < 0 || how >= HOWS", "if (how < 0 || how >= HOWS",
                "needThing(thing); if (how < 0 || how >= HOWS",
                        "if (ledger.size >= MOST_SAYINGS) { refusedSayings++; return NONE; } needThing(thing); if (how < 0 || "
                                + "how >= HOWS",
                "public int say(int person, int hour, int thing, int how, boolean not) throws NoSuchElementException {",
                "public int say(int person, int hour, int thing, int how, boolean not) throws NoSuchElementException { "
                        + "refusedSayings += how < 0 ? 1 : 0;");
    }

    private static void utter(Edges edges) {
        edges.of("Promise 12", "A PERSON utters the tape's first n bytes (it is empty then): how many SAYINGS there are.", () -> {
            EndingTown x = Check.of(VILLAGE);
            Check.feed(x, "n cdcd");
            Check.is("the first four", x.utter(1, 23, 4), 1);
            Check.is("an empty tape", x.count(7), 0);
            int[] due = {1, 23, 0, 0, 1};
            for (int what = 0; what < 5; what++) {
                Check.is("saying(0, " + what + ")", x.saying(0, what), due[what]);
            }
            Check.feed(x, "ax");
            Check.is("with the blanks behind it", x.utter(0, 0, 20), 2);
            Check.is("an empty tape", x.count(7), 0);
            Check.is("by a CHANGE", x.saying(1, 2), 1);
            Check.is("the last word is not the first one's", x.saying(1, 4), 0);
            Check.is("one more by say()", x.say(0, 0, 0, 0, false), 3);
            Check.is("and one uttered", Check.utter(x, 0, 0, "cd"), 4);
            EndingTown y = Check.of("stem a;ending 2 0 b;person;person;thing 0 0 0;");
            y.say(1, 0, 0, 2, false);
            Check.is("who is told doesn't hold", y.wrong(0), 1);
            Check.is("the words that tell him", Check.utter(y, 0, 0, "ab"), 2);
            Check.is("he holds", y.wrong(0), 0);
        }, "if (!utterance.isClear(n, town)", "if (!utterance.isClear(Math.max(n, 6), town)",
                "needHour(hour); takeTape(n);", "needHour(hour); int tapeLeft = tapeLength; takeTape(n); tapeLength = tapeLeft;",
                "not = false;", "",
                "ground.forget(); return ledger.size; } public int unsay",
                        "return ledger.size; } public int unsay");
        edges.of("Promise 12", "NONE (STATUS 1): there are 20, it isn't CLEAR.", () -> {
            EndingTown x = Check.of(VILLAGE);
            String[] unclear = {"", "n", "zz", "cee", "cd!", "n n cd", "cd cd"};
            for (int i = 0; i < unclear.length; i++) {
                Check.is("'" + unclear[i] + "'", Check.utter(x, 0, 0, unclear[i]), -1);
                Check.is("STATUS 1", x.count(9), i + 1);
                Check.is("an empty tape", x.count(7), 0);
            }
            for (int i = 1; i <= 20; i++) {
                Check.is("CLEAR", Check.utter(x, 0, 0, "cd"), i);
            }
            Check.is("the 21st", Check.utter(x, 0, 0, "cd"), -1);
            Check.is("an empty tape", x.count(7), 0);
            Check.is("neither of both", Check.utter(x, 0, 0, "zz"), -1);
            Check.is("STATUS 1", x.count(9), unclear.length + 2);
            Check.is("20 stay", x.count(6), 20);
        }, "|| !ledger.add(person, hour, utterance.thing, utterance.how, utterance.not)) { refusedSayings++;",
                "|| !ledger.add(person, hour, utterance.thing, utterance.how, utterance.not)) { refusedSayings += ledger.size "
                        + "< MOST_SAYINGS ? 1 : 0;",
                "refusedSayings++; return NONE; } ground.forget(); return ledger.size; } public int unsay",
                "return NONE; } ground.forget(); return ledger.size; } public int unsay",
                "if (size >= MOST_SAYINGS) {", "if (size >= MOST_SAYINGS - 1) {");
    }

    private static void utterRefused(Edges edges) {
        edges.of("Promise 12", "NoSuchElementException, behind that IllegalArgumentException (nothing changes): likewise.",
                () -> {
            EndingTown x = Check.of(VILLAGE);
            Check.feed(x, "cd");
            int[] odd = {21, 40, 801, -1, -20, Integer.MIN_VALUE, Integer.MAX_VALUE};
            for (int n : odd) {
                Check.illegal("utter of " + n, () -> x.utter(0, 0, n));
                Check.none("by nobody, of " + n, () -> x.utter(2, 0, n));
                Check.none("at no HOUR, of " + n, () -> x.utter(0, 24, n));
            }
            Check.none("by nobody", () -> x.utter(-1, 0, 2));
            Check.none("at no HOUR", () -> x.utter(0, -1, 2));
            Check.is("the tape stays", x.count(7), 20);
            Check.is("none is counted", x.count(9), 0);
            Check.is("nothing is said", x.count(6), 0);
            Check.is("it can be said", x.utter(0, 0, 2), 1);
            for (int i = 1; i < 20; i++) {
                x.say(0, 0, 0, 0, false);
            }
            Check.illegal("ahead of 20", () -> x.utter(0, 0, 1));
            Check.none("ahead of 20", () -> x.utter(2, 0, 0));
            Check.is("none is counted", x.count(9), 0);
        }, "needPerson(person); needHour(hour); takeTape(n);",
                "takeTape(n); needPerson(person); needHour(hour);",
                "needPerson(person); needHour(hour); takeTape(n);",
                        "needPerson(person); takeTape(n); needHour(hour);",
                "needHour(hour); takeTape(n);", "needHour(hour); if (ledger.size >= MOST_SAYINGS) { refusedSayings++; return "
                        + "NONE; } takeTape(n);",
                "if (n < 0 || n > tapeLength) {", "if (n < 0 || n > tapeLength + 1) {", "if (n < 0 || n > tapeLength) {",
                        "if (n > tapeLength) {");
    }

    private static void unsay(Edges edges) {
        edges.of("Promise 13", "The last SAYING is taken back: how many are left.", () -> {
            EndingTown x = Check.of(VILLAGE);
            for (int i = 0; i < 20; i++) {
                x.say(0, i, 0, 4, false);
            }
            for (int left = 19; left >= 0; left--) {
                Check.is("unsay", x.unsay(), left);
                Check.is("SAYINGS", x.count(6), left);
                Check.is("the first stays", left > 0 ? x.saying(left - 1, 1) : -1, left - 1);
                int gone = left;
                Check.none("the last is gone", () -> x.saying(gone, 0));
            }
            x.say(0, 9, 0, 0, true);
            Check.is("it is wrong", x.wrong(0), 1);
            x.unsay();
            Check.is("nothing is", x.wrong(0), 0);
            EndingTown y = Check.of("stem a;thing 0 0 0;person;person;");
            y.say(1, 0, 0, 2, false);
            y.say(0, 0, 0, 0, false);
            Check.is("1 is told", y.saying(0, 5), 1);
            y.unsay();
            Check.is("1 isn't", y.saying(0, 5), 0);
        }, "ledger.size--; ground.forget(); return ledger.size;",
                "ledger.size--; ground.forget(); return ledger.size + 1;",
                "ledger.size--; ground.forget();", "ledger.size--;",
                "ledger.size--; ground.forget();", "ledger.size = 0; ground.forget();");
        edges.of("Promise 13", "NONE: there are none.", () -> {
            EndingTown x = new EndingTown();
            Check.is("of a new object", x.unsay(), -1);
            Check.is("still none", x.count(6), 0);
            Check.is("none is counted", x.count(9), 0);
            Check.village(x, VILLAGE);
            Check.is("of a new village", x.unsay(), -1);
            x.say(0, 0, 0, 0, false);
            Check.is("of one", x.unsay(), 0);
            Check.is("of none", x.unsay(), -1);
            Check.is("again", x.unsay(), -1);
            Check.is("and one is said", x.say(0, 0, 0, 0, false), 1);
        }, "if (ledger.size == 0) { return NONE;",
                "if (ledger.size == 0) { refusedSayings++; return NONE;",
                "if (ledger.size == 0) { return NONE;", "if (ledger.size == 0) { return 0;",
                "if (ledger.size == 0) { return NONE;", "if (ledger.size < 0) { return NONE;");
    }
}
