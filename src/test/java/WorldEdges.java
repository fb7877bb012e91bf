/** ==== 5: WORLDS, WORDS IN PUBLIC, what is KNOWN, and STATUS; the constants. */
final class WorldEdges {
    private static final String PART = "==== 5";
    /** 0 sees the things 0 and 1, 1 the things 1 and 2, 2 nothing, 3 the thing 2; the thing 1 never was. */
    private static final String VILLAGE = "stem a;stem b;stem c;stem d;places 4;thing 0 0 2;thing 1 0 4 never;thing 2 1 "
            + "6;thing 3 2 0;person;person;person;person;at 1 0 3;at 1 4 0;at 1 5 1;at 2 0 3;at 3 0 3;at 3 6 1;at 3 7 3;";

    private WorldEdges() {
    }

    static void tell(Edges edges) {
        worlds(edges);
        words(edges);
        known(edges);
        edges.of("The constants", "`NONE = -1`: There is none.", () -> {
            Check.is("NONE", EndingTown.NONE, -1);
            Check.is("an unsay of none", new EndingTown().unsay(), -1);
        }, "public static final int NONE = -1;", "public static final int NONE = -2;",
                "if (ledger.size == 0) { return NONE;", "if (ledger.size == 0) { return 0;");
    }

    private static void worlds(Edges edges) {
        edges.of(PART, "WORLDS of some THINGS (at most 4, as bits): all ways in which these are so or not", () -> {
            EndingTown x = Check.of(TextEdges.TWELVE_STEMS + TextEdges.EIGHT_THINGS);
            for (int things = 1; things < 256; things++) {
                int some = things;
                if (Integer.bitCount(things) <= 4) {
                    Check.is("worlds(" + things + ")", x.worlds(things), 1 << Integer.bitCount(things));
                } else {
                    Check.illegal("worlds(" + things + ")", () -> x.worlds(some));
                }
            }
        }, "MOST_WORLD_THINGS = 4;", "MOST_WORLD_THINGS = 3;",
                "MOST_WORLD_THINGS = 4;", "MOST_WORLD_THINGS = 5;",
                "left = (1 << (1 << Integer.bitCount(some))) - 1;", "left = (1 << (2 * Integer.bitCount(some))) - 1;");
        edges.of(PART, "THE REAL ONE: those so that are not NEVER.", () -> {
            EndingTown x = Check.of(VILLAGE);
            x.worlds(7);
            Check.is("0 knows 0 is so", x.known(0, 1, 0, false), true);
            Check.is("0 knows 1 is not", x.known(0, 1, 1, true), true);
            Check.is("not that it is", x.known(0, 1, 1, false), false);
            Check.is("1 knows 2 is so", x.known(1, 1, 2, false), true);
            Check.is("not that it isn't", x.known(1, 1, 2, true), false);
            x.worlds(2);
            Check.is("alone, it is not so either", x.known(0, 1, 1, true), true);
            Check.is("and that is left", x.tell(0, 1, true), 1);
            x.worlds(12);
            Check.is("of others, 2 is so", x.known(1, 1, 2, false), true);
        }, "if (hasBit(things & ~town.never, thing)) {", "if (hasBit(things, thing)) {",
                "if (hasBit(things & ~town.never, thing)) {", "if (hasBit(things & town.never, thing)) {",
                "int world = 0; for (int thing", "int world = 1; for (int thing",
                "return Integer.bitCount(things & ((1 << thing) - 1));", "return Math.min(3, thing) & ~1;");
        edges.of(PART, "One DISTINGUISHES those THINGS of them at whose PLACES he was at their HOURS (and all know so of all).",
                () -> {
            EndingTown x = Check.of(VILLAGE);
            x.worlds(15);
            boolean[][] due = {{true, true, false, false}, {false, true, true, false}, {false, false, false, false}, {false,
                    false, true, false}};
            for (int person = 0; person < 4; person++) {
                for (int thing = 0; thing < 4; thing++) {
                    Check.is(person + " knows of " + thing, x.known(person, 1, thing, thing == 1), due[person][thing]);
                    for (int other = 0; other < 4; other++) {
                        Check.is(other + " knows that " + person + " knows of " + thing,
                                x.known(other + 8 * person, 2, thing, thing == 1), due[person][thing] && due[other][thing]);
                    }
                }
            }
        }, "if (hasBit(things, thing) && town.wasThere(person, thing)) {", "if (hasBit(things, thing)) {",
                "if (hasBit(things, thing) && town.wasThere(person, thing)) {",
                        "if (hasBit(things & ~town.never, thing) && town.wasThere(person, thing)) {",
                "if (hasBit(things, thing) && town.wasThere(person, thing)) {",
                        "if (hasBit(things, thing) && town.placeAt(person, HOURS - 1) == town.placeOf[thing]) {");
        edges.of(PART, "He KNOWS in a WORLD what is so in all WORLDS left that he can't tell from it.", () -> {
            EndingTown x = Check.of(VILLAGE);
            x.worlds(6);
            Check.is("2 sees nothing", x.known(2, 1, 2, false), false);
            Check.is("nor the other way", x.known(2, 1, 2, true), false);
            x.tell(3, 2, false);
            Check.is("in all that are left it is so", x.known(2, 1, 2, false), true);
            Check.is("and of the other nothing", x.known(2, 1, 1, true), false);
            Check.is("two are left", x.count(11), 2);
        }, "if (hasBit(left, other) && ((other ^ world) & told) == 0) {", "if (((other ^ world) & told) == 0) {",
                "if (hasBit(left, other) && ((other ^ world) & told) == 0) {", "if (hasBit(left, other)) {",
                "if (hasBit(left, other) && ((other ^ world) & told) == 0) {", "if (other == world) {");
    }

    private static void words(Edges edges) {
        edges.of(PART, "WORDS IN PUBLIC: a PERSON says that he KNOWS a THING is so (or not so): if he does in THE REAL ONE, "
                + "WORLDS in which he doesn't are left out.", () -> {
            EndingTown x = Check.of(VILLAGE);
            x.worlds(15);
            Check.is("he doesn't", x.tell(2, 0, false), -1);
            Check.is("he knows otherwise", x.tell(0, 0, true), -1);
            Check.is("all are left", x.count(11), 16);
            Check.is("it is so", x.tell(0, 0, false), 8);
            Check.is("it is not so", x.tell(0, 1, true), 4);
            Check.is("again", x.tell(0, 1, true), 4);
            Check.is("by another who knows it now", x.tell(2, 1, true), 4);
            Check.is("one more", x.tell(3, 2, false), 2);
            Check.is("what nobody saw", x.tell(3, 3, false), -1);
            Check.is("two are left", x.count(11), 2);
            x.worlds(4);
            Check.is("the last one", x.tell(3, 2, false), 1);
            Check.is("and it stays", x.tell(2, 2, false), 1);
        }, "if (!hasBit(knowing, realWorld())) {", "if (knowing == 0) {",
                "left = knowing; return true;", "left &= 1 << realWorld(); return true;",
                "left = knowing; return true;", "return true;",
                "if (!hasBit(knowing, realWorld())) { return false;",
                        "if (!hasBit(knowing, realWorld())) { left = knowing; return false;");
        edges.of(PART, "STATUS: how many calls were refused: 0 of TEXTS with a FAULT, 1 of SAYINGS, 2 of WORDS IN PUBLIC.",
                () -> {
            EndingTown x = Check.of(VILLAGE);
            status(x, 0, 0, 0);
            Check.village(x, "foo");
            status(x, 1, 0, 0);
            x.say(0, 0, 0, 5, false);
            status(x, 1, 1, 0);
            Check.utter(x, 0, 0, "foo");
            status(x, 1, 2, 0);
            x.tell(0, 0, false);
            status(x, 1, 2, 1);
            Check.none("no PERSON", () -> x.say(4, 0, 0, 0, false));
            Check.none("no PERSON", () -> x.tell(4, 0, false));
            Check.illegal("no such tape", () -> x.village(1));
            Check.illegal("no such tape", () -> x.utter(0, 0, 1));
            x.unsay();
            status(x, 1, 2, 1);
            Check.apart(x, "foo");
            x.worlds(1);
            x.tell(0, 0, false);
            x.say(0, 0, 0, 0, false);
            x.mend();
            status(x, 1, 2, 1);
        }, "refusedTexts++;", "refusedTexts += 2;",
                "refusedWords++;", "refusedWords = 2;",
                "if (how < 0 || how >= HOWS || !ledger.add(person, hour, thing, how, not)) { refusedSayings++;",
                "if (how < 0 || how >= HOWS || !ledger.add(person, hour, thing, how, not)) { refusedTexts++;",
                "utterance.not)) { refusedSayings++;", "utterance.not)) { refusedSayings += 0;");
    }

    private static void status(EndingTown x, int texts, int sayings, int words) {
        Check.is("STATUS 0", x.count(8), texts);
        Check.is("STATUS 1", x.count(9), sayings);
        Check.is("STATUS 2", x.count(10), words);
    }

    private static void known(Edges edges) {
        edges.of(PART, "KNOWN by a row of PEOPLE (1 to 4): in THE REAL ONE the first KNOWS that the second KNOWS .. that the "
                + "THING is so (not so).", () -> {
            EndingTown x = Check.of(VILLAGE);
            x.worlds(7);
            Check.is("one", x.known(3, 1, 2, false), true);
            Check.is("two", x.known(3 + 8, 2, 2, false), true);
            Check.is("three", x.known(3 + 8 + 64 * 3, 3, 2, false), true);
            Check.is("four", x.known(3 + 8 + 64 * 3 + 512, 4, 2, false), true);
            Check.is("four, the last of whom doesn't", x.known(3 + 8 + 64 * 3 + 512 * 2, 4, 2, false), false);
            Check.is("four, the first of whom doesn't", x.known(2 + 8 + 64 * 3 + 512, 4, 2, false), false);
            Check.is("four, the third of whom doesn't", x.known(3 + 8 + 512, 4, 2, false), false);
            Check.is("of not so", x.known(0 + 8 + 512, 4, 1, true), true);
            Check.is("of so", x.known(0 + 8 + 512, 4, 1, false), false);
            EndingTown y = Check.of("stem a;stem b;places 2;thing 0 0 0;thing 1 1 0;person;person;at 1 0 1;");
            y.worlds(3);
            Check.is("0 knows of 0", y.known(0, 1, 0, false), true);
            Check.is("1 doesn't know that 0 does", y.known(1, 2, 0, false), false);
            Check.is("0 doesn't know that 1 does", y.known(8, 2, 1, false), false);
            y.tell(0, 0, false);
            Check.is("1 knows that 0 does", y.known(1, 2, 0, false), true);
            Check.is("and 0 that 1 knows that 0 does", y.known(8, 3, 0, false), true);
        }, "for (int i = many - 1; i >= 0; i--) {", "for (int i = Math.min(many - 1, 2); i >= 0; i--) {",
                "for (int i = many - 1; i >= 0; i--) {", "for (int i = many - 1; i > 0; i--) {",
                "for (int i = many - 1; i >= 0; i--) {", "for (int i = 0; i < 1; i++) {",
                "return hasBit(some, realWorld());", "return some != 0;");
    }
}
