/** ==== 3, its first half: what is said, to whom, and by what it HOLDS. */
final class HoldEdges {
    private static final String PART = "==== 3";

    private HoldEdges() {
    }

    static void tell(Edges edges) {
        sayings(edges);
        seen(edges);
        heard(edges);
        told(edges);
        workedOut(edges);
        grounds(edges);
        rounds(edges);
    }

    /** That one says so, and nothing else is said: whether it HOLDS. */
    private static void alone(EndingTown x, int person, int hour, int thing, int how, boolean not, boolean due) {
        String call = "say(" + person + ", " + hour + ", " + thing + ", " + how + ", " + not + ")";
        int many = x.count(6);
        x.say(person, hour, thing, how, not);
        Check.is(call + " holds", x.saying(many, 5), due ? 1 : 0);
        x.unsay();
        if (how < 4) {
            Check.is(call + " could", x.could(person, hour, thing, not) >> how & 1, due ? 1 : 0);
        }
    }

    private static void sayings(Edges edges) {
        edges.of(PART, "SAYINGS 0, 1 .. (at most 20): a PERSON, at an HOUR, says a THING by a HOW, or that it is not so (NOT).",
                () -> {
            EndingTown x = Check.of("stem a;stem b;person;person;thing 0 0 0;thing 1 0 0;");
            for (int i = 0; i < 20; i++) {
                Check.is("say", x.say(i % 2, 23 - i, i / 2 % 2, i % 5, i % 3 == 0), i + 1);
            }
            Check.is("the 21st", x.say(0, 0, 0, 0, false), -1);
            for (int i = 0; i < 20; i++) {
                int[] due = {i % 2, 23 - i, i / 2 % 2, i % 5, i % 3 == 0 ? 1 : 0};
                for (int what = 0; what < 5; what++) {
                    Check.is("saying(" + i + ", " + what + ")", x.saying(i, what), due[what]);
                }
            }
        }, "MOST_SAYINGS = 20;", "MOST_SAYINGS = 19;", "MOST_SAYINGS = 20;", "MOST_SAYINGS = 21;",
                "not[size] = isNot;", "not[size] = false;");
        edges.of(PART, "To all who are at the same PLACE then.", () -> {
            EndingTown x = Check.of("stem a;places 2;thing 0 0 0;person;person;person;person;at 1 6 1;at 2 0 1;at 2 6 0;"
                    + "at 3 5 1;at 3 6 0;weigh 0 900 100;");
            x.say(0, 5, 0, 0, false);
            int[] due = {1 | 16, 1 | 4 | 16, 16, 1 | 16};
            int[] likely = {500000, 900000, 500000, 500000};
            for (int person = 0; person < 4; person++) {
                Check.is("could say it, " + person, x.could(person, 9, 0, false), due[person]);
                Check.is("at that HOUR, " + person, x.could(person, 5, 0, false), due[person]);
                Check.is("likely to " + person, x.likely(person, 0), likely[person]);
            }
        }, "&& town.placeAt(who, hour[saying]) == town.placeAt(person[saying], hour[saying]);", ";",
                "&& town.placeAt(who, hour[saying]) == town.placeAt(person[saying], hour[saying]);",
                "&& town.placeAt(who, HOURS - 1) == town.placeAt(person[saying], HOURS - 1);");
        edges.of(PART, "With a PLACE and HOUR of a THING is meant where and when it would have happened.", () -> {
            EndingTown x = Check.of("stem a;places 2;thing 0 1 5 never;person;person;person;at 1 5 1;at 1 6 0;at 2 6 1;");
            Check.is("its PLACE", x.thing(0, 1), 1);
            Check.is("its HOUR", x.thing(0, 2), 5);
            alone(x, 0, 9, 0, 0, true, false);
            alone(x, 1, 4, 0, 0, true, false);
            alone(x, 1, 5, 0, 0, true, true);
            alone(x, 2, 9, 0, 0, true, false);
        }, "return placeAt(person, hourOf[thing]) == placeOf[thing];",
                "return hasBit(never, thing) || placeAt(person, hourOf[thing]) == placeOf[thing];",
                "if (hourOf[thing] > hour) {", "if (hourOf[thing] > hour && !hasBit(never, thing)) {");
    }

    private static void seen(Edges edges) {
        edges.of(PART, "A SAYING HOLDS by SEEN, if he was at the PLACE of the THING at its HOUR", () -> {
            EndingTown x = Check.of("stem a;stem b;places 2;thing 0 1 5;thing 1 1 0;person;person;person;person;person;"
                    + "at 1 5 1;at 1 6 0;at 2 4 1;at 2 5 0;at 3 6 1;at 4 0 1;at 4 1 0;");
            boolean[] due = {false, true, false, false, false};
            for (int person = 0; person < 5; person++) {
                alone(x, person, 23, 0, 0, false, due[person]);
                alone(x, person, 23, 1, 0, false, person == 4);
            }
        }, "return placeAt(person, hourOf[thing]) == placeOf[thing];",
                "return placeAt(person, hourOf[thing] + 1) == placeOf[thing];",
                "return placeAt(person, hourOf[thing]) == placeOf[thing];",
                        "return placeAt(person, Math.max(0, hourOf[thing] - 1)) == placeOf[thing];",
                "if (wasThere(person, thing) && hasBit(never, thing) == not) {", "if (hasBit(never, thing) == not) {");
        edges.of(PART, "that is no later than when he says it", () -> {
            EndingTown x = Check.of("stem a;stem b;stem c;thing 0 0 5;thing 1 0 23;thing 2 0 0;person;");
            alone(x, 0, 4, 0, 0, false, false);
            alone(x, 0, 5, 0, 0, false, true);
            alone(x, 0, 6, 0, 0, false, true);
            alone(x, 0, 22, 1, 0, false, false);
            alone(x, 0, 23, 1, 0, false, true);
            alone(x, 0, 0, 2, 0, false, true);
        }, "if (hourOf[thing] > hour) {", "if (hourOf[thing] >= hour) {",
                "if (hourOf[thing] > hour) {", "if (hourOf[thing] > hour + 1) {");
        edges.of(PART, "and it is NEVER just if he says NOT", () -> {
            EndingTown x = Check.of("stem a;stem b;thing 0 0 5;thing 1 0 5 never;person;");
            alone(x, 0, 9, 0, 0, false, true);
            alone(x, 0, 9, 0, 0, true, false);
            alone(x, 0, 9, 1, 0, false, false);
            alone(x, 0, 9, 1, 0, true, true);
        }, "hasBit(never, thing) == not", "(hasBit(never, thing) || !not)", "hasBit(never, thing) == not",
                "(!hasBit(never, thing) || not)");
    }

    private static void heard(Edges edges) {
        String village = "stem a;stem b;stem c;stem d;places 4;near 0 1;near 2 0;near 2 3;thing 0 0 5 loud;thing 1 0 5;"
                + "thing 2 0 5 loud never;thing 3 0 5 never;person;person;person;person;person;at 1 0 1;at 2 0 2;at 3 0 3;"
                + "at 4 0 3;at 4 5 1;at 4 6 3;";
        edges.of(PART, "by HEARD, if he says no NOT", () -> {
            EndingTown x = Check.of(village);
            alone(x, 1, 9, 0, 1, false, true);
            alone(x, 1, 9, 0, 1, true, false);
            alone(x, 1, 9, 2, 1, true, false);
        }, "if (!not && hasBit(loud, thing) && !hasBit(never, thing)", "if (hasBit(loud, thing) && !hasBit(never, thing)",
                "if (!not && hasBit(loud, thing) && !hasBit(never, thing)",
                        "if (hasBit(loud, thing) && hasBit(never, thing) == not");
        edges.of(PART, "it is LOUD and not NEVER, its HOUR no later", () -> {
            EndingTown x = Check.of(village);
            for (int thing = 0; thing < 4; thing++) {
                alone(x, 1, 4, thing, 1, false, false);
                alone(x, 1, 5, thing, 1, false, thing == 0);
                alone(x, 1, 23, thing, 1, false, thing == 0);
            }
        }, "if (!not && hasBit(loud, thing) && !hasBit(never, thing)", "if (!not && !hasBit(never, thing)",
                "if (!not && hasBit(loud, thing) && !hasBit(never, thing)", "if (!not && hasBit(loud, thing)",
                "if (hourOf[thing] > hour) {", "if (hourOf[thing] > hour && !hasBit(loud, thing)) {",
                "if (hourOf[thing] > hour) {", "if (hourOf[thing] >= hour) {");
        edges.of(PART, "and he was at a PLACE NEAR its PLACE (either way told) then", () -> {
            EndingTown x = Check.of(village);
            boolean[] due = {false, true, true, false, true};
            for (int person = 0; person < 5; person++) {
                alone(x, person, 9, 0, 1, false, due[person]);
            }
            EndingTown y = Check.of("places 6;near 0 1;near 2 0;near 0 3;near 4 0;near 5 4;"
                    + "near 3 5;person;person;person;person;person;person;at 1 0 1;at 2 0 2;at 3 0 3;at 4 0 4;at 5 0 5;stem a;"
                    + "stem b;stem c;stem d;stem e;stem f;thing 0 0 0 loud;thing 1 1 0 loud;thing 2 2 0 loud;"
                    + "thing 3 3 0 loud;thing 4 4 0 loud;thing 5 5 0 loud;");
            int[] near = {2 | 4 | 8 | 16, 1, 1, 1 | 32, 1 | 32, 8 | 16};
            for (int person = 0; person < 6; person++) {
                for (int thing = 0; thing < 6; thing++) {
                    alone(y, person, 0, thing, 1, false, (near[person] >> thing & 1) == 1);
                }
            }
        }, "town.near[first] |= 1 << value;", "",
                "town.near[first] |= 1 << value;", "town.near[first] = 1 << value;",
                "town.near[value] |= 1 << first;", "town.near[value] = 1 << first;",
                "town.near[value] |= 1 << first;", "",
                "&& isNear(placeAt(person, hourOf[thing]), placeOf[thing])) {",
                        "&& isNear(placeAt(person, hour), placeOf[thing])) {",
                "&& isNear(placeAt(person, hourOf[thing]), placeOf[thing])) {", ") {",
                "return a >= 0 && a < places && hasBit(near[a], b);",
                        "return a >= 0 && a < places && (a == b || hasBit(near[a], b));");
    }

    private static void told(Edges edges) {
        String village = "stem a;stem b;places 2;thing 0 0 1;thing 1 0 1 never;person;person;person;person;at 1 0 1;"
                + "at 1 5 0;at 2 0 1;at 2 6 0;at 3 5 1;at 3 6 0;";
        edges.of(PART, "by TOLD, if another person's SAYING of the same THING, with NOT alike, HOLDS", () -> {
            EndingTown x = Check.of(village);
            x.say(0, 5, 0, 0, false);
            alone(x, 0, 9, 0, 2, false, false);
            alone(x, 1, 9, 0, 2, false, true);
            alone(x, 1, 9, 0, 2, true, false);
            alone(x, 1, 9, 1, 2, false, false);
            x.say(0, 5, 1, 0, true);
            alone(x, 1, 9, 1, 2, true, true);
            alone(x, 1, 9, 1, 2, false, false);
            x.say(0, 5, 1, 0, false);
            Check.is("it doesn't hold", x.saying(2, 5), 0);
            alone(x, 1, 9, 1, 2, false, false);
            EndingTown y = Check.of("stem a;stem b;thing 0 0 0 never;thing 1 0 9;person;person;");
            y.say(0, 5, 0, 0, true);
            Check.is("it holds", y.saying(0, 5), 1);
            alone(y, 1, 5, 0, 2, true, true);
            alone(y, 1, 5, 1, 2, false, false);
            alone(y, 1, 5, 1, 2, true, false);
        }, "return person[saying] != who && town", "return town",
                "return 2 * thing + (not ? 1 : 0);", "return 2 * thing;",
                "return 2 * thing + (not ? 1 : 0);", "return thing + (not ? 1 : 0);",
                "tellers[i] = heard[i] & about[aboutRow(ledger.thing[i], ledger.not[i])];", "tellers[i] = heard[i];",
                "solid = held & (~dreamt | changed);", "solid = left & (~dreamt | changed);");
        edges.of(PART, "is not by DREAMT, its HOUR no later", () -> {
            EndingTown x = Check.of(village);
            x.say(0, 5, 0, 4, false);
            alone(x, 1, 9, 0, 2, false, false);
            x.say(0, 7, 0, 0, false);
            alone(x, 1, 6, 0, 2, false, false);
            alone(x, 1, 7, 0, 2, false, true);
            alone(x, 1, 8, 0, 2, false, true);
            alone(x, 1, 23, 0, 2, false, true);
        }, "dreamt |= 1 << i;", "dreamt |= 0;",
                "ledger.hour[i] <= hour && ledger", "ledger.hour[i] < hour && ledger",
                "ledger.hour[i] <= hour && ledger", "ledger");
        edges.of(PART, "and he was at the same PLACE as who said it then", () -> {
            EndingTown x = Check.of(village);
            x.say(0, 5, 0, 0, false);
            // 1 comes at 5; 2 comes at 6; 3 was there till 5, and is again from 6 on
            for (int hour = 5; hour < 24; hour++) {
                alone(x, 1, hour, 0, 2, false, true);
                alone(x, 2, hour, 0, 2, false, false);
                alone(x, 3, hour, 0, 2, false, false);
            }
            x.say(0, 6, 0, 0, false);
            alone(x, 2, 6, 0, 2, false, true);
            alone(x, 3, 6, 0, 2, false, true);
        }, "&& town.placeAt(who, hour[saying]) == town.placeAt(person[saying], hour[saying]);", ";",
                "&& town.placeAt(who, hour[saying]) == town.placeAt(person[saying], hour[saying]);",
                "&& town.placeAt(who, 6) == town.placeAt(person[saying], 6);");
    }

    private static void workedOut(Edges edges) {
        edges.of(PART, "by WORKED OUT, if he says no NOT", () -> {
            EndingTown x = Check.of("stem a;stem b;places 2;thing 0 0 0;thing 1 1 0 never;person;rule 1 0;");
            alone(x, 0, 0, 1, 3, false, true);
            alone(x, 0, 0, 1, 3, true, false);
        }, "if (!ledger.not[saying] && town.isWorkedOut", "if (town.isWorkedOut", "if (!not && town.isWorkedOut",
                "if (town.isWorkedOut");
        edges.of(PART, "and some RULE's first THING it is", () -> {
            EndingTown x = Check.of("stem a;stem b;stem c;stem d;places 2;thing 0 0 0;thing 1 1 0;thing 2 1 0;"
                    + "thing 3 1 0;person;rule 1 2;rule 1 0;rule 2 3;");
            alone(x, 0, 0, 0, 3, false, false);
            alone(x, 0, 0, 1, 3, false, true);
            alone(x, 0, 0, 2, 3, false, false);
            alone(x, 0, 0, 3, 3, false, false);
            alone(Check.of("stem a;thing 0 0 0;person;"), 0, 0, 0, 3, false, false);
        }, "return head[rule] == thing && (tail[rule] & ~can) == 0;", "return (tail[rule] & ~can) == 0;",
                "if (follows(rule, thing, can)) { return true; }",
                "if (head[rule] == thing) { return follows(rule, thing, can); }",
                "bits |= 1 << head[rule];", "bits |= (1 << head[rule]) | 8;");
    }

    private static void grounds(Edges edges) {
        String village = "stem a;stem b;stem c;stem d;stem e;places 3;near 0 1;thing 0 2 0;thing 1 0 3;thing 2 1 7 loud;"
                + "thing 3 2 0;thing 4 0 1 never;person;person;at 1 0 2;at 1 1 0;rule 0 1 2 3;rule 3 4;";
        edges.of(PART, "of all others of which he COULD say each (without NOT) at that HOUR by some HOW but DREAMT", () -> {
            EndingTown x = Check.of(village);
            alone(x, 0, 9, 0, 3, false, false);
            x.say(1, 5, 3, 4, false);
            alone(x, 0, 9, 0, 3, false, false);
            x.say(0, 5, 3, 4, false);
            alone(x, 0, 9, 0, 3, false, false);
            // that it is not so one could say, but nothing follows from that
            x.say(1, 5, 4, 0, true);
            Check.is("which holds", x.saying(2, 5), 1);
            Check.is("NOT of the NEVER one", x.could(0, 9, 4, true), 1 | 4 | 16);
            alone(x, 0, 9, 0, 3, false, false);
            x.say(1, 5, 3, 0, false);
            alone(x, 0, 9, 0, 3, false, true);
            alone(x, 0, 7, 0, 3, false, true);
            alone(x, 0, 6, 0, 3, false, false);
            x.unsay();
            x.say(1, 8, 3, 0, false);
            alone(x, 0, 8, 0, 3, false, true);
            alone(x, 0, 7, 0, 3, false, false);
            EndingTown y = Check.of("stem a;stem b;stem c;places 2;thing 0 0 0;thing 1 1 0;thing 2 1 0;person;rule 1 0;"
                    + "rule 2 1;");
            alone(y, 0, 0, 2, 3, false, true);
            EndingTown z = Check.of("stem a;stem b;stem c;stem d;places 2;thing 0 0 0;thing 1 1 0;thing 2 1 0;"
                    + "thing 3 1 0;person;rule 1 0;rule 2 0;rule 3 1 2;");
            alone(z, 0, 0, 3, 3, false, true);
            EndingTown w = Check.of(LONG_WAY);
            alone(w, 0, 0, 6, 3, false, true);
            alone(w, 1, 23, 6, 3, false, false);
        }, "return head[rule] == thing && (tail[rule] & ~can) == 0;", "return head[rule] == thing && (tail[rule] & can) != 0;",
                "if ((about[aboutRow(thing, false)] & told) != 0) {",
                        "if (((about[aboutRow(thing, false)] | about[aboutRow(thing, true)]) & told) != 0) {",
                "int told = heardBy(person, hour) & solid;", "int told = heardBy(person, hour) & held;",
                "int wider = widened(can[i], heard[i] & solid, bare[i]);",
                        "int wider = widened(can[i], heard[i] & held, bare[i]);",
                "bare[i] = town.ownThings(person, hour);", "bare[i] = town.ownThings(person, HOURS - 1);",
                "if (ownHows(person, hour, thing, false) != 0) {",
                        "if ((ownHows(person, hour, thing, false) | ownHows(person, hour, thing, true)) != 0) {",
                "int bits = sayable | own | town.followers(sayable);", "int bits = sayable | own;",
                "bits |= 1 << head[rule];", "bits = 1 << head[rule];",
                "wider != bits && round < MOST_THINGS; round++", "wider != bits && round < 3; round++");
        edges.of(PART, "by DREAMT always.", () -> {
            EndingTown x = Check.of(village);
            for (int thing = 0; thing < 5; thing++) {
                alone(x, 0, 0, thing, 4, false, true);
                alone(x, 1, 0, thing, 4, true, true);
                alone(x, 0, 23, thing, 4, true, true);
                Check.is("could", x.could(1, 0, thing, true) >> 4, 1);
            }
        }, "int bits = (1 << DREAMT) | ownHows[saying];", "int bits = ownHows[saying] == 0 ? 0 : (1 << DREAMT) | "
                + "ownHows[saying];",
                "int bits = (1 << DREAMT) | town.ownHows(person, hour, thing, not);",
                        "int bits = town.ownHows(person, hour, thing, not);");
        edges.of(PART, "What HOLDS holds from the ground up: nothing holds that leans on itself alone", () -> {
            EndingTown x = Check.of("stem a;stem b;stem c;places 2;thing 0 1 0;thing 1 1 0;"
                    + "thing 2 1 0;person;person;person;rule 0 1;rule 1 0;");
            x.say(0, 5, 2, 2, false);
            Check.is("on himself", x.wrong(0), 1);
            x.say(1, 5, 2, 2, false);
            Check.is("on each other", x.wrong(0), 3);
            x.say(0, 5, 0, 3, false);
            Check.is("on a ring of RULES", x.wrong(0), 7);
            x.say(1, 5, 1, 3, false);
            Check.is("on each other by RULES", x.wrong(0), 15);
            Check.is("which nobody could say", x.could(2, 9, 0, false), 16);
        }, "held = 0; solid = 0;", "held = 0; solid = left & ~dreamt;",
                "Arrays.fill(can, 0);", "Arrays.fill(can, 255);");
        edges.of(PART, "COULD is asked with SAYINGS that HOLD.", () -> {
            EndingTown x = Check.of("stem a;stem b;thing 0 0 5;thing 1 0 9;person;person;person;rule 1 0;");
            x.say(0, 4, 0, 0, false);
            Check.is("by what doesn't hold", x.could(1, 4, 0, false), 16);
            Check.is("nor what follows from it", x.could(1, 4, 1, false), 16);
            x.say(2, 4, 0, 2, false);
            Check.is("nor by who leans on it", x.could(1, 4, 0, false), 16);
        }, "int told = heardBy(person, hour) & solid;", "int told = heardBy(person, hour) & ~dreamt;",
                "int told = heardBy(person, hour) & solid;", "int told = heardBy(person, hour) & ~held;");
    }

    /** From one to the next, each at the next one's PLACE; what 5 works out of it goes back the same way. */
    static final String LONG_WAY = "stem a;stem b;stem c;stem d;stem e;stem f;stem g;places 6;thing 0 0 0;thing 1 0 23;"
            + "thing 2 0 23;thing 3 0 23;thing 4 0 23;thing 5 0 23;thing 6 0 23;rule 1 0;rule 2 1;rule 3 2;rule 4 3;rule 5 4;"
            + "rule 6 5;person;person;person;person;person;person;at 1 0 1;at 2 0 2;at 3 0 3;at 4 0 4;at 5 0 5;at 0 1 1;at 1 2 2;"
            + "at 2 3 3;at 3 4 4;at 4 5 5;at 4 7 4;at 3 8 3;at 2 9 2;at 1 10 1;";

    /** The eleven SAYINGS of the long way, the last one first; its ground is said by that HOW. */
    static void sayLongWay(EndingTown x, int ground) {
        for (int person = 0; person < 5; person++) {
            x.say(person, 11 - person, 6, 2, false);
        }
        x.say(5, 6, 6, 3, false);
        for (int person = 4; person >= 0; person--) {
            x.say(person, person + 1, 0, person == 0 ? ground : 2, false);
        }
    }

    private static final int[] LONG_CHAINS = {17, 16, 15, 14, 13, 12, 5, 4, 3, 2, 1};

    private static void rounds(Edges edges) {
        edges.of(PART, "(in ROUNDS: in ROUND 1 what leans on no SAYING and on no WORKING OUT, in each next one what leans on "
                + "what held in ROUNDS ahead of it)", () -> {
            EndingTown x = Check.of(LONG_WAY);
            sayLongWay(x, 0);
            Check.is("all hold", x.wrong(0), 0);
            for (int i = 0; i < 11; i++) {
                Check.is("round of " + i, x.saying(i, 6), LONG_CHAINS[i]);
            }
            EndingTown y = Check.of("stem a;thing 0 0 0;person;person;");
            y.say(0, 0, 0, 0, false);
            y.say(1, 0, 0, 2, false);
            Check.is("not in the ROUND of what it leans on", y.saying(1, 6), 2);
        }, "chain[i] = round;", "chain[i] = round; solid |= 1 << i;",
                "MOST_ROUNDS = MOST_SAYINGS + MOST_SAYINGS * MOST_THINGS + 1;", "MOST_ROUNDS = 16;",
                "boolean widened = widenAll(changed, left & ~held); moved = widened || rising != 0;",
                "boolean widened = widenAll(changed, left & ~held); moved = rising != 0;");
        edges.of(PART, "CHAIN of a SAYING that HOLDS: the ROUND in which it does first (by DREAMT 1)", () -> {
            EndingTown x = Check.of("stem a;places 2;thing 0 0 0;person;person;person;at 2 0 1;at 2 1 0;");
            x.say(0, 5, 0, 4, false);
            x.say(0, 5, 0, 0, false);
            x.say(1, 5, 0, 2, false);
            x.say(2, 5, 0, 2, false);
            x.say(2, 5, 0, 0, false);
            int[] due = {1, 1, 2, 2, 0};
            for (int i = 0; i < 5; i++) {
                Check.is("chain " + i, x.saying(i, 6), due[i]);
            }
        }, "int rising = rising(changed, left & ~held, round);", "int rising = rising(changed, left, round);",
                "chain[i] = round;", "chain[i] = how == DREAMT ? 0 : round;",
                "Arrays.fill(chain, 0);", "Arrays.fill(chain, 1);");
        chains(edges);
    }

    private static void chains(Edges edges) {
        String village = "stem a;stem b;stem c;stem d;stem e;places 3;near 0 1;thing 0 0 0;thing 1 1 0 loud;thing 2 2 0;"
                + "thing 3 2 0;thing 4 2 0;person;person;person;person;at 3 0 2;at 3 1 0;at 2 0 1;at 2 1 2;at 2 5 0;at 1 0 1;"
                + "at 1 1 0;at 1 6 1;at 0 6 1;";
        edges.of(PART, "COULD, too, has ROUNDS: of WORKING OUT one more than the greatest of the others", () -> {
            EndingTown x = Check.of(village + "rule 4 0 1;rule 3 4 0;");
            x.say(0, 5, 4, 3, false);
            Check.is("of two of ROUND 1", x.saying(0, 6), 2);
            x.say(0, 5, 3, 3, false);
            Check.is("of ROUND 2 and ROUND 1", x.saying(1, 6), 3);
            EndingTown y = Check.of(village + "rule 4 2 0;");
            y.say(0, 5, 4, 3, false);
            y.say(3, 5, 2, 0, false);
            Check.is("of TOLD and SEEN", y.saying(0, 6), 3);
        }, "int bits = sayable | own | town.followers(sayable);", "int bits = sayable | own | town.followers(sayable | own);",
                "int hows = standingHows(i, solid, can[i]);",
                        "int hows = standingHows(i, solid, widest(heard[i] & solid, bare[i]));");
        edges.of(PART, "by the RULE of which that is least", () -> {
            EndingTown x = Check.of(village + "rule 4 3;rule 3 0;rule 4 1;");
            x.say(0, 5, 4, 3, false);
            Check.is("the third RULE", x.saying(0, 6), 2);
            EndingTown y = Check.of(village + "rule 4 1;rule 3 0;rule 4 3;");
            y.say(0, 5, 4, 3, false);
            Check.is("the first RULE", y.saying(0, 6), 2);
        }, "if (follows(rule, thing, can)) { return true; }",
                "if (head[rule] == thing) { return follows(rule, thing, can); }",
                "if (follows(rule, thing, can)) { return true;",
                        "if (follows(rule, thing, can) && rule + 1 >= rules) { return true;");
        edges.of(PART, "of TOLD one more than the least SAYING's; SEEN, HEARD 1.", () -> {
            EndingTown x = Check.of(village);
            x.say(0, 5, 1, 1, false);
            x.say(3, 5, 1, 2, false);
            x.say(2, 5, 1, 2, false);
            x.say(1, 5, 1, 0, false);
            int[] due = {1, 2, 2, 1};
            for (int i = 0; i < 4; i++) {
                Check.is("chain " + i, x.saying(i, 6), due[i]);
            }
            x.unsay();
            x.unsay();
            x.unsay();
            x.say(3, 5, 1, 2, false);
            x.say(1, 6, 1, 2, false);
            Check.is("told by ROUND 1 and by ROUND 2", x.saying(2, 6), 2);
        }, "if ((tellers[saying] & told) != 0) {", "if ((tellers[saying] & told) != 0 && (tellers[saying] & ~told) == 0) {",
                "chain[i] = round;", "chain[i] = how == HEARD ? round + 1 : round;",
                "chain[i] = round;", "chain[i] = how == SEEN ? round + 1 : round;");
    }
}
