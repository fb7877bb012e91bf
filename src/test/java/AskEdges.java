/** Promises 14 to 25: what is asked of SAYINGS, MEND, SILENCE, LIKELY, WORLDS, the image. */
final class AskEdges {
    /** 0 sees the thing 0, 1 hears it; 2 and 3 come later; the thing 2 never was; 2 sees that. */
    private static final String VILLAGE = "stem a;stem b;stem c;places 3;near 0 1;thing 0 0 3 loud;thing 1 2 9;thing 2 2 3 "
            + "never;person;person;person;person;at 1 3 1;at 1 5 0;at 2 0 2;at 2 5 0;at 3 0 2;at 3 3 1;at 3 4 2;at 3 5 0;"
            + "rule 1 0;";

    private AskEdges() {
    }

    static void tell(Edges edges) {
        saying(edges);
        couldAndWrong(edges);
        mend(edges);
        chosen(edges);
        worlds(edges);
        tellRefused(edges);
        known(edges);
        image(edges);
    }

    private static void saying(Edges edges) {
        edges.of("Promise 14", "Of a SAYING: 0 PERSON, 1 HOUR, 2 THING, 3 HOW, 4 NOT (1), 5 whether it HOLDS (1), 6 CHAIN (0: "
                + "it doesn't hold), 7 EYES as bits.", () -> {
            EndingTown x = Check.of(VILLAGE);
            x.say(2, 6, 1, 3, false);
            x.say(1, 6, 0, 1, false);
            x.say(2, 23, 2, 0, true);
            x.say(2, 0, 2, 0, true);
            x.say(3, 5, 2, 4, true);
            int[][] due = {{2, 6, 1, 3, 0, 1, 3, 2}, {1, 6, 0, 1, 0, 1, 1, 2}, {2, 23, 2, 0, 1, 1, 1, 4}, {2, 0, 2, 0, 1, 0, 0,
                    0},
                {3, 5, 2, 4, 1, 1, 1, 0}};
            for (int i = 0; i < 40; i++) {
                Check.is("saying(" + i / 8 + ", " + i % 8 + ")", x.saying(i / 8, i % 8), due[i / 8][i % 8]);
            }
            EndingTown y = Check.of(TextEdges.TWELVE_STEMS + TextEdges.EIGHT_THINGS
                    + "person;person;person;person;person;person;rule 7 6 5 4;");
            for (int i = 0; i < 19; i++) {
                y.say(i % 5, 0, i % 7, 0, false);
            }
            y.say(5, 0, 7, 3, false);
            int[] last = {5, 0, 7, 3, 0, 1, 2, 63};
            for (int what = 0; what < 8; what++) {
                Check.is("saying(19, " + what + ")", y.saying(19, what), last[what]);
            }
        }, "case 5: return ground.chainOf(saying) > 0 ? 1 : 0;", "case 5: return ground.chainOf(saying);",
                "case 4: return ledger.not[saying] ? 1 : 0;", "case 4: return ledger.not[saying] ? 0 : 1;",
                "return eyes[saying];", "return eyes[saying] | (hasBit(held, saying) ? 0 : 1);",
                "Arrays.fill(chain, 0);", "Arrays.fill(chain, NONE);",
                "thingEyes = new int[MOST_SAYINGS * MOST_THINGS];", "thingEyes = new int[MOST_SAYINGS * MOST_THINGS - 1];");
        edges.of("Promise 14", "NoSuchElementException: no such SAYING, what.", () -> {
            EndingTown x = Check.of(VILLAGE);
            CallEdges.noneBeyond("of none", 0, i -> x.saying(i, 0));
            for (int i = 1; i <= 20; i++) {
                x.say(0, 5, 0, 0, false);
                int many = i;
                Check.none("behind the last", () -> x.saying(many, 0));
            }
            CallEdges.noneBeyond("of 20", 20, i -> x.saying(i, 7));
            CallEdges.noneBeyond("what", 8, i -> x.saying(0, i));
            Check.none("neither", () -> x.saying(20, 8));
        }, "if (saying < 0 || saying >= ledger.size) {", "if (saying < 0 || saying > ledger.size) {",
                "if (saying < 0 || saying >= ledger.size) {", "if (saying >= ledger.size) {",
                "default: throw new NoSuchElementException(); } } public int could",
                        "default: return 0; } } public int could");
    }

    private static void couldAndWrong(Edges edges) {
        edges.of("Promise 15", "HOWS by which one COULD say a THING at an HOUR, as bits (bit 4, DREAMT, always; by TOLD by "
                + "others' SAYINGS that HOLD).", () -> {
            EndingTown x = Check.of(VILLAGE + "rule 0 1;");
            Check.is("none but DREAMT", x.could(2, 23, 0, false), 16);
            Check.is("SEEN, and round by RULES", x.could(0, 3, 0, false), 1 | 8 | 16);
            Check.is("ahead of it", x.could(0, 2, 0, false), 16);
            Check.is("NOT", x.could(0, 3, 0, true), 16);
            x.say(0, 5, 1, 0, false);
            Check.is("by what doesn't hold", x.could(2, 23, 1, false), 16);
            x.say(0, 5, 0, 4, false);
            Check.is("by a dream", x.could(2, 23, 0, false), 16);
            x.say(0, 5, 0, 0, false);
            Check.is("TOLD, and round by RULES", x.could(2, 23, 0, false), 4 | 8 | 16);
            Check.is("HEARD, TOLD and round", x.could(1, 5, 0, false), 2 | 4 | 8 | 16);
            Check.is("not by his own words", x.could(0, 23, 0, false), 1 | 8 | 16);
            x.say(1, 5, 0, 1, false);
            Check.is("SEEN, TOLD and round", x.could(0, 23, 0, false), 1 | 4 | 8 | 16);
            x.say(2, 5, 2, 0, true);
            Check.is("NOT, TOLD", x.could(0, 5, 2, true), 4 | 16);
            Check.is("NOT, SEEN", x.could(2, 5, 2, true), 1 | 16);
            Check.is("not that it is so", x.could(0, 5, 2, false), 16);
        }, "int told = heardBy(person, hour) & solid;", "int told = heardBy(person, hour) & held;",
                "int told = heardBy(person, hour) & solid;", "int told = heardBy(person, hour) & ~dreamt;",
                "if ((told & about[aboutRow(thing, not)]) != 0) {", "if ((told & about[aboutRow(thing, false)]) != 0) {",
                "int bits = (1 << DREAMT) | town.ownHows(person, hour, thing, not);",
                        "int bits = (not ? 0 : 1 << DREAMT) | town.ownHows(person, hour, thing, not);");
        edges.of("Promise 16", "SAYINGS that don't hold (what 0), RINGS (1), as bits.", () -> {
            EndingTown x = Check.of(VILLAGE);
            Check.is("of none", x.wrong(0), 0);
            Check.is("rings of none", x.wrong(1), 0);
            for (int i = 0; i < 20; i++) {
                x.say(i % 4, i < 10 ? 2 : 5, 0, i == 5 ? 4 : i > 17 ? 2 : 0, false);
            }
            // 0 saw it, and says so at 5: the SAYINGS 12 and 16; the last two are told by him
            Check.is("wrong(0)", x.wrong(0), 0xfffff & ~(1 << 5 | 1 << 12 | 1 << 16 | 3 << 18));
            Check.is("wrong(1)", x.wrong(1), 0);
            EndingTown y = Check.of(VILLAGE);
            for (int i = 0; i < 20; i++) {
                y.say(i % 4, 23, 1, 2, false);
            }
            Check.is("all", y.wrong(0), 0xfffff);
            Check.is("all are one ring", y.wrong(1), 0xfffff);
        }, "return (1 << size) - 1;", "return (1 << Math.min(size, 19)) - 1;", "return ledger.every() & ~held;", "return held;",
                "case 1: return ground.rings();", "case 1: return ground.unheld();",
                "case 0: return ground.unheld();", "case 0: return ground.unheld() & ~ground.rings();");
        edges.of("Promise 16", "NoSuchElementException: another what.", () -> {
            CallEdges.noneBeyond("of a new object", 2, new EndingTown()::wrong);
            CallEdges.noneBeyond("of a village", 2, Check.of(VILLAGE)::wrong);
        }, "default: throw new NoSuchElementException(); } } public int mend",
                "default: return 0; } } public int mend",
                "switch (what) { case 0: return ground.unheld();",
                        "switch (what & 1) { case 0: return ground.unheld();");
    }

    private static void mend(Edges edges) {
        edges.of("Promise 17", "MEND: how many are CHANGED; it is kept.", () -> {
            EndingTown x = Check.of(VILLAGE);
            Check.is("of none", x.mend(), 0);
            x.say(0, 5, 0, 1, false);
            x.say(0, 2, 0, 0, false);
            Check.is("both are wrong", x.wrong(0), 3);
            Check.is("both", x.mend(), 2);
            Check.is("the SAYINGS are as they were", x.wrong(0), 3);
            Check.is("by the same HOW", x.saying(0, 3), 1);
            x.unsay();
            x.unsay();
            x.image();
            x.restore();
            x.say(1, 5, 0, 1, false);
            Check.is("it is kept", x.mended(0), 0);
            Check.is("both of it", x.mended(1), 4);
            Check.is("another in its place", x.mend(), 0);
            Check.is("which is kept", x.mended(0), 1);
            Check.none("and has but one", () -> x.mended(1));
        }, "return Integer.bitCount(changed);", "return changed;",
                "ground.lay(); ground.forget();", "ground.lay();",
                "ledger.size--; ground.forget();", "ledger.size--; mender.clear(); ground.forget();",
                "minds.copyFrom(keptMinds); ground",
                        "minds.copyFrom(keptMinds); mender.clear(); ground",
                "size = Math.min(ledger.size, MOST_MENDED);", "size = Math.max(size, ledger.size);",
                "hows[i] = hasBit(ground.held, i) ? ground.risenBy[i] : DREAMT;",
                        "hows[i] = hasBit(ground.held, i) ? ground.risenBy[i] : DREAMT; ledger.how[i] = hows[i];");
        edges.of("Promise 17", "NONE: there are more than 12 SAYINGS (what is kept stays).", () -> {
            EndingTown x = Check.of(VILLAGE);
            for (int i = 0; i < 12; i++) {
                x.say(0, 5, 0, i == 11 ? 0 : 1, false);
            }
            Check.is("of 12", x.mend(), 11);
            x.say(0, 5, 0, 0, false);
            Check.is("of 13", x.mend(), -1);
            Check.is("the first stays", x.mended(0), 0);
            Check.is("the 12th stays", x.mended(11), 0);
            Check.none("no 13th", () -> x.mended(12));
            for (int i = 13; i < 20; i++) {
                x.say(0, 5, 0, 0, false);
            }
            Check.is("of 20", x.mend(), -1);
            Check.is("it still stays", x.mended(11), 0);
            EndingTown y = Check.of(VILLAGE);
            for (int i = 0; i < 13; i++) {
                y.say(0, 5, 0, 0, false);
            }
            Check.is("of 13, none kept", y.mend(), -1);
            Check.none("none is", () -> y.mended(0));
            Check.is("nothing is counted", y.count(9), 0);
        }, "if (ledger.size > MOST_MENDED) {", "if (ledger.size >= MOST_MENDED) {",
                "if (ledger.size > MOST_MENDED) {", "if (ledger.size > MOST_SAYINGS) {",
                "if (ledger.size > MOST_MENDED) {", "if (ledger.size > MOST_MENDED) { mender.clear();",
                "if (ledger.size > MOST_MENDED) {", "if (ledger.size > MOST_MENDED) { refusedSayings++;");
        edges.of("Promise 18", "By which HOW a SAYING is in the MEND that is kept.", () -> {
            EndingTown x = Check.of(VILLAGE);
            x.say(0, 5, 0, 3, false);
            x.say(1, 5, 0, 3, false);
            x.say(2, 5, 0, 3, false);
            x.say(2, 5, 1, 1, false);
            x.say(2, 2, 1, 1, false);
            x.say(2, 5, 2, 0, true);
            x.mend();
            int[] due = {0, 1, 2, 3, 4, 0};
            for (int i = 0; i < 6; i++) {
                Check.is("mended(" + i + ")", x.mended(i), due[i]);
            }
        }, "if (!hasBit(changed, i)) { hows[i] = ledger.how[i];",
                "if (!hasBit(changed, i)) { hows[i] = DREAMT;",
                "hows[i] = hasBit(ground.held, i) ? ground.risenBy[i] : DREAMT;", "hows[i] = DREAMT;");
        edges.of("Promise 18", "NoSuchElementException: none is kept, no such SAYING of it.", () -> {
            EndingTown x = Check.of(VILLAGE);
            CallEdges.noneBeyond("none is kept", 0, x::mended);
            x.mend();
            CallEdges.noneBeyond("of no SAYINGS", 0, x::mended);
            for (int i = 0; i < 12; i++) {
                x.say(0, 5, 0, 0, false);
            }
            CallEdges.noneBeyond("said behind it", 0, x::mended);
            x.mend();
            CallEdges.noneBeyond("of 12", 12, x::mended);
            Check.village(x, VILLAGE);
            CallEdges.noneBeyond("of a new village", 0, x::mended);
        }, "if (saying < 0 || saying >= mender.size) {", "if (saying < 0 || saying > mender.size) {",
                "if (saying < 0 || saying >= mender.size) {", "if (saying >= mender.size) {",
                "if (saying < 0 || saying >= mender.size) {", "if (saying < 0 || saying >= MOST_MENDED) {",
                "if (saying < 0 || saying >= mender.size) {", "if (saying < 0 || saying >= ledger.size) {");
    }

    private static void chosen(Edges edges) {
        edges.of("Promise 19", "SILENCE, as bits.", () -> {
            EndingTown x = Check.of(VILLAGE);
            Check.is("nobody", x.silence(0, 0), 0);
            x.say(0, 5, 0, 0, false);
            Check.is("0 alone", x.silence(3, 0), 1);
            x.say(1, 5, 0, 1, false);
            Check.is("0 and 1", x.silence(3, 0), 3);
            Check.is("1 for 0", x.silence(0, 0), 2);
            x.say(3, 6, 0, 2, false);
            Check.is("all hold", x.wrong(0), 0);
            Check.is("1 and 3 for 0", x.silence(0, 0), 10);
            Check.is("all still hold", x.wrong(0), 0);
            Check.is("as they did", x.saying(2, 6), 2);
        }, "return silent;", "return Integer.bitCount(silent);",
                "int fewestSilent(int person, int thing) { lay(); forget();",
                        "int fewestSilent(int person, int thing) { settle();",
                "lay(); forget(); int told", "lay(); int told");
        edges.of("Promise 20", "How LIKELY, in millionths.", () -> {
            EndingTown x = Check.of("stem a;thing 0 0 0;person;person;weigh 0 999 0;weigh 1 0 999;weigh 2 1 6;");
            Check.is("at first", x.likely(0, 0), 500000);
            x.say(1, 0, 0, 2, false);
            Check.is("one of seven", x.likely(0, 0), 142857);
            x.say(1, 0, 0, 0, false);
            Check.is("the most", x.likely(0, 0), 1000000);
            x.unsay();
            x.say(1, 0, 0, 1, false);
            Check.is("the least", x.likely(0, 0), 0);
        }, "MILLION = 1000000;", "MILLION = 100000;");
    }

    private static void worlds(Edges edges) {
        edges.of("Promise 21", "WORLDS of some THINGS are told, all anew: how many there are.", () -> {
            EndingTown x = Check.of(VILLAGE);
            Check.is("of one", x.worlds(4), 2);
            Check.is("of two", x.worlds(3), 4);
            Check.is("of three", x.worlds(7), 8);
            x.tell(0, 0, false);
            Check.is("four are left", x.count(11), 4);
            Check.is("anew", x.worlds(7), 8);
            Check.is("all are left", x.count(11), 8);
            Check.is("1 knows nothing of it", x.known(1, 1, 0, false), false);
            Check.is("of others", x.worlds(6), 4);
            Check.is("not of that one", x.known(0, 1, 0, false), false);
            Check.is("nor any words of it", x.tell(0, 0, false), -1);
        }, "left = (1 << (1 << Integer.bitCount(some))) - 1;",
                "left = left == 0 ? (1 << (1 << Integer.bitCount(some))) - 1 : left;",
                "things = some; left", "things |= some; left",
                "minds.open(things); return Integer.bitCount(minds.left);",
                        "minds.open(things); return Integer.bitCount(things);");
        edges.of("Promise 21", "IllegalArgumentException: bits of THINGS that there aren't, more than 4, none.", () -> {
            EndingTown x = Check.of(TextEdges.TWELVE_STEMS + "thing 0 0 0;thing 1 0 0;thing 2 0 0;thing 3 0 0;"
                    + "thing 4 0 0;person;");
            x.worlds(1);
            x.tell(0, 0, false);
            int[] odd = {0, 31, 32, 33, 63, 64, 128, 256, 65536, -1, -2, -32, -31, Integer.MIN_VALUE, Integer.MAX_VALUE,
                    Integer.MIN_VALUE + 1};
            for (int things : odd) {
                Check.illegal("worlds(" + things + ")", () -> x.worlds(things));
                Check.is("those that there are stay", x.count(11), 1);
            }
            Check.is("four", x.worlds(30), 16);
            Check.is("the last", x.worlds(16), 2);
            Check.illegal("of a new object", () -> new EndingTown().worlds(1));
            Check.illegal("none of a new object", () -> new EndingTown().worlds(0));
            EndingTown y = Check.of(TextEdges.TWELVE_STEMS + TextEdges.EIGHT_THINGS);
            Check.is("the last of eight", y.worlds(128), 2);
            Check.illegal("a ninth", () -> y.worlds(256));
            Check.illegal("and one of eight", () -> y.worlds(257));
        }, "if (things == 0 || (things & ~all) != 0", "if ((things & ~all) != 0",
                "if (things == 0 || (things & ~all) != 0", "if (things == 0 || (things & 255 & ~all) != 0",
                "if (things == 0 || (things & ~all) != 0", "if (things == 0",
                "if (things == 0 || (things & ~all) != 0", "if (things == 0 || things > all",
                "|| Integer.bitCount(things) > MOST_WORLD_THINGS) {", ") {",
                "|| Integer.bitCount(things) > MOST_WORLD_THINGS) {", "|| Integer.bitCount(things) >= MOST_WORLD_THINGS) {");
    }

    private static void tellRefused(Edges edges) {
        edges.of("Promise 22", "WORDS IN PUBLIC: how many WORLDS are left.", () -> {
            EndingTown x = Check.of(VILLAGE);
            x.worlds(7);
            Check.is("0 knows of 0", x.tell(0, 0, false), 4);
            Check.is("1 knows it now", x.tell(1, 0, false), 4);
            Check.is("2 knows that 2 is not so", x.tell(2, 2, true), 2);
            Check.is("count(11)", x.count(11), 2);
        }, "return NONE; } return Integer.bitCount(minds.left);",
                "return NONE; } return minds.left;");
        edges.of("Promise 22", "NONE (STATUS 2): he doesn't KNOW it, no WORLDS are told, it is none of their THINGS.", () -> {
            EndingTown x = Check.of(VILLAGE);
            Check.is("no WORLDS", x.tell(0, 0, false), -1);
            Check.is("STATUS 2", x.count(10), 1);
            Check.is("still none", x.count(11), 0);
            x.worlds(6);
            Check.is("none of their THINGS", x.tell(0, 0, false), -1);
            Check.is("STATUS 2", x.count(10), 2);
            Check.is("he doesn't know", x.tell(0, 2, true), -1);
            Check.is("STATUS 2", x.count(10), 3);
            Check.is("he knows otherwise", x.tell(2, 2, false), -1);
            Check.is("STATUS 2", x.count(10), 4);
            Check.is("all are left", x.count(11), 4);
            Check.is("he knows", x.tell(2, 2, true), 2);
            Check.is("not counted", x.count(10), 4);
            x.worlds(4);
            Check.is("none of their THINGS, of which he knows one", x.tell(2, 0, true), -1);
            Check.is("nor another", x.tell(2, 1, true), -1);
            Check.is("STATUS 2", x.count(10), 6);
            Check.is("all are left", x.count(11), 2);
        }, "boolean hear(int person, int thing, boolean not) { if (!hasBit(things, thing)) {",
                "boolean hear(int person, int thing, boolean not) { if (things == 0) {",
                "boolean hear(int person, int thing, boolean not) { if (!hasBit(things, thing)) {",
                        "boolean hear(int person, int thing, boolean not) { if (things != 0 && !hasBit(things, thing)) { left "
                                + "= 1;",
                "refusedWords++; return NONE;", "refusedWords += minds.left > 0 ? 1 : 0; return NONE;",
                "refusedWords++; return NONE;", "refusedWords++; return Integer.bitCount(minds.left);",
                "if (!hasBit(knowing, realWorld())) {", "if (knowing == 0) {");
    }

    private static void known(Edges edges) {
        edges.of("Promise 23", "Whether it is KNOWN by a row of PEOPLE (the first one the lowest figure of row to the base 8, "
                + "many of them).", () -> {
            EndingTown x = Check.of("stem a;places 2;thing 0 0 0;person;person;person;person;person;person;at 1 0 1;"
                    + "at 3 0 1;at 4 0 1;");
            x.worlds(1);
            // 0, 2 and 5 know of it
            for (int row = 0; row < 4096; row++) {
                boolean due = true;
                boolean people = true;
                for (int many = 1; many <= 4; many++) {
                    int person = row >> 3 * (many - 1) & 7;
                    people = people && person < 6;
                    due = due && (person == 0 || person == 2 || person == 5);
                    if (people) {
                        Check.is("known(" + row + ", " + many + ")", x.known(row, many, 0, false), due);
                    }
                }
            }
            Check.is("higher figures count for nothing", x.known(017777777770, 1, 0, false), true);
            Check.is("higher figures count for nothing", x.known(017777770250, 4, 0, false), true);
        }, "return (row >>> (3 * i)) & 7;", "return (row >>> (3 * i)) & 3;", "return (row >>> (3 * i)) & 7;",
                "return (row >>> (4 * i)) & 7;",
                "for (int i = 0; i < many; i++) { if (!town.hasPerson",
                        "for (int i = 0; i < MOST_ROW; i++) { if (!town.hasPerson",
                "some = knowing(figure(row, i), some);", "some = knowing(figure(row, 0), some);");
        edges.of("Promise 23", "False, too: no WORLDS are told, it is none of their THINGS.", () -> {
            EndingTown x = Check.of(VILLAGE);
            Check.is("no WORLDS", x.known(0, 1, 0, false), false);
            Check.is("no WORLDS, not so", x.known(0, 1, 0, true), false);
            x.worlds(6);
            Check.is("none of their THINGS", x.known(0, 1, 0, false), false);
            Check.is("none of their THINGS, not so", x.known(0, 1, 0, true), false);
            Check.is("one of them", x.known(2, 1, 2, true), true);
            x.worlds(4);
            Check.is("none of their THINGS, of which he knows one", x.known(2, 1, 0, true), false);
            Check.is("nor another", x.known(2, 1, 1, true), false);
            Check.is("no words", x.count(10), 0);
        }, "boolean isKnown(int row, int many, int thing, boolean not) { if (!hasBit(things, thing)) {",
                "boolean isKnown(int row, int many, int thing, boolean not) { if (left == 0) {",
                "boolean isKnown(int row, int many, int thing, boolean not) { if (!hasBit(things, thing)) {",
                        "boolean isKnown(int row, int many, int thing, boolean not) { if (things == 0) { return true; } if "
                                + "(!hasBit(things, thing)) {",
                "boolean isKnown(int row, int many, int thing, boolean not) { if (!hasBit(things, thing)) { return false;",
                        "boolean isKnown(int row, int many, int thing, boolean not) { if (!hasBit(things, thing)) { return not;");
        edges.of("Promise 23", "IllegalArgumentException (behind NoSuchElementException): many is not 1 to 4, one of these is "
                + "no PERSON.", () -> {
            EndingTown x = Check.of(VILLAGE);
            for (int time = 0; time < 2; time++) {
                int[] odd = {0, -1, 5, 6, 33, 257, Integer.MIN_VALUE, Integer.MAX_VALUE};
                for (int many : odd) {
                    Check.illegal("many " + many, () -> x.known(0, many, 0, false) ? 1 : 0);
                    Check.none("no THING ahead of many " + many, () -> x.known(0, many, 3, false) ? 1 : 0);
                }
                for (int place = 0; place < 4; place++) {
                    for (int person = 4; person < 8; person++) {
                        int row = person << 3 * place;
                        int many = place + 1;
                        Check.illegal("no PERSON " + person, () -> x.known(row, many, 0, false) ? 1 : 0);
                        Check.illegal("no PERSON of 4", () -> x.known(row, 4, 2, false) ? 1 : 0);
                        Check.none("no THING ahead of no PERSON", () -> x.known(row, 4, -1, false) ? 1 : 0);
                    }
                }
                Check.illegal("all figures", () -> x.known(-1, 1, 0, false) ? 1 : 0);
                Check.is("four will do", x.known(0, 4, 0, false), time == 1);
                Check.is("one will do", x.known(0, 1, 0, false), time == 1);
                x.worlds(1);
            }
            Check.illegal("nobody", () -> Check.of("stem a;thing 0 0 0;").known(0, 1, 0, false) ? 1 : 0);
            Check.none("a new object", () -> new EndingTown().known(0, 0, 0, false) ? 1 : 0);
        }, "if (many < 1 || many > MOST_ROW) {", "if (many < 0 || many > MOST_ROW) {", "if (many < 1 || many > MOST_ROW) {",
                "if (many < 1 || many > MOST_ROW + 1) {",
                "MOST_ROW = 4;", "MOST_ROW = 3;",
                "for (int i = 0; i < many; i++) { if (!town.hasPerson",
                        "for (int i = 0; i < many - 1; i++) { if (!town.hasPerson",
                "needThing(thing); if (many < 1 || many > MOST_ROW) { throw new IllegalArgumentException(); }",
                        "if (many < 1 || many > MOST_ROW) { throw new IllegalArgumentException(); } needThing(thing);",
                "if (!town.hasPerson(Minds.figure(row, i))) {",
                        "if (minds.left != 0 && !town.hasPerson(Minds.figure(row, i))) {");
    }

    private static void image(Edges edges) {
        edges.of("Promise 24", "SAYINGS and WORLDS left are kept as an image, in place of another one.", () -> {
            EndingTown x = Check.of(VILLAGE);
            for (int i = 0; i < 20; i++) {
                x.say(i % 4, i, i % 3, i % 5, i % 2 == 1);
            }
            x.worlds(7);
            x.tell(0, 0, false);
            x.image();
            Check.is("the SAYINGS stay", x.count(6), 20);
            for (int i = 0; i < 20; i++) {
                x.unsay();
            }
            for (int i = 0; i < 20; i++) {
                x.say((i + 1) % 4, 23 - i, (i + 1) % 3, (i + 1) % 5, i % 2 == 0);
            }
            x.worlds(4);
            x.restore();
            for (int i = 0; i < 20; i++) {
                int[] due = {i % 4, i, i % 3, i % 5, i % 2};
                for (int what = 0; what < 5; what++) {
                    Check.is("saying(" + i + ", " + what + ")", x.saying(i, what), due[what]);
                }
            }
            Check.is("WORLDS left", x.count(11), 4);
            Check.is("of those THINGS", x.known(1, 1, 0, false), true);
            x.worlds(3);
            x.unsay();
            x.image();
            x.unsay();
            Check.is("another", x.restore(), true);
            Check.is("in its place", x.count(6), 19);
            Check.is("with its WORLDS", x.count(11), 4);
            Check.is("as they were", x.known(1, 1, 0, false), false);
            EndingTown y = Check.of(VILLAGE);
            y.image();
            y.say(0, 0, 0, 0, false);
            y.worlds(1);
            Check.is("an empty one", y.restore(), true);
            Check.is("no SAYINGS", y.count(6), 0);
            Check.is("no WORLDS", y.count(11), 0);
            EndingTown z = new EndingTown();
            z.image();
            Check.is("of a new object", z.restore(), true);
        }, "keptLedger.copyFrom(ledger);", "if (!imageKept) { keptLedger.copyFrom(ledger); }",
                "keptMinds.copyFrom(minds);", "keptMinds.left = minds.left;",
                "keptMinds.copyFrom(minds);", "", "for (int i = 0; i < not.length; i++) {",
                        "for (int i = 0; i < not.length - 1; i++) {",
                "keptLedger.copyFrom(ledger);", "keptLedger.copyFrom(ledger); ledger.size = 0;",
                "System.arraycopy(other.hour, 0, hour, 0, hour.length);",
                        "System.arraycopy(other.hour, 0, hour, 0, hour.length - 1);");
        edges.of("Promise 25", "They are as the image again: true.", () -> {
            EndingTown x = Check.of(VILLAGE);
            x.say(0, 5, 0, 0, false);
            x.say(2, 5, 0, 2, false);
            x.worlds(1);
            x.image();
            for (int time = 0; time < 3; time++) {
                Check.is("restore", x.restore(), true);
                Check.is("SAYINGS", x.count(6), 2);
                Check.is("WORLDS", x.count(11), 2);
                Check.is("they hold", x.wrong(0), 0);
                Check.is("by their chain", x.saying(1, 6), 2);
                x.unsay();
                x.unsay();
                x.say(3, 5, 0, 2, false);
                x.say(2, 5, 1, 0, false);
                Check.is("these don't", x.wrong(0), 3);
                x.worlds(6);
                x.tell(0, 0, false);
                Check.is("STATUS isn't of it", x.count(10), time + 1);
            }
            Check.village(x, "foo");
            Check.is("behind a FAULT", x.restore(), true);
            Check.is("as it was", x.count(6), 2);
        }, "minds.copyFrom(keptMinds); ground.forget();", "minds.copyFrom(keptMinds);",
                "minds.copyFrom(keptMinds); ground", "ground",
                "ledger.copyFrom(keptLedger); minds", "minds",
                "ground.forget(); return true;", "ground.forget(); imageKept = false; return true;");
        edges.of("Promise 25", "False: there is none.", () -> {
            EndingTown x = new EndingTown();
            Check.is("of a new object", x.restore(), false);
            Check.village(x, VILLAGE);
            x.say(0, 5, 0, 0, false);
            x.worlds(7);
            Check.is("of a village", x.restore(), false);
            Check.is("SAYINGS stay", x.count(6), 1);
            Check.is("WORLDS stay", x.count(11), 8);
            x.image();
            Check.village(x, VILLAGE);
            x.say(0, 5, 0, 0, false);
            x.say(0, 5, 0, 0, false);
            Check.is("of a new village", x.restore(), false);
            Check.is("SAYINGS stay", x.count(6), 2);
        }, "if (!imageKept) { return false;", "if (!imageKept) { ledger.size = 0; return false;",
                "imageKept = false; ground", "ground", "if (!imageKept) { return false;",
                        "if (!imageKept) { return true;");
    }
}
