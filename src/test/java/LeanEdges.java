/** ==== 3, its second half: whose EYES hold a SAYING up, and RINGS. */
final class LeanEdges {
    private static final String PART = "==== 3";

    private LeanEdges() {
    }

    static void tell(Edges edges) {
        ownEyes(edges);
        eyesOfOthers(edges);
        rings(edges);
    }

    private static void ownEyes(Edges edges) {
        String village = "stem a;places 3;near 0 1;thing 0 0 3 loud;person;person;person;person;person;person;at 5 3 1;"
                + "at 5 4 0;at 4 3 2;at 4 4 0;";
        edges.of(PART, "EYES of a SAYING that HOLDS: PEOPLE by whose SEEN or HEARD it may be held up: by SEEN, HEARD his own",
                () -> {
            EndingTown x = Check.of(village);
            for (int person = 0; person < 6; person++) {
                x.say(person, 5, 0, person == 5 ? 1 : 0, false);
            }
            int[] due = {1, 2, 4, 8, 0, 32};
            for (int person = 0; person < 6; person++) {
                Check.is("eyes of " + person, x.saying(person, 7), due[person]);
            }
            x.say(0, 2, 0, 0, false);
            Check.is("ahead of it", x.saying(6, 7), 0);
        }, "int seen = hasBit(held, i) ? eyesNow(i) : 0;", "int seen = eyesNow(i);",
                "return 1 << ledger.person[saying];", "return 1 << Math.min(4, ledger.person[saying]);",
                "case SEEN: case HEARD:", "case SEEN:");
        edges.of(PART, "by DREAMT none", () -> {
            EndingTown x = Check.of(village);
            x.say(0, 5, 0, 4, false);
            Check.is("though he saw it", x.saying(0, 7), 0);
            x.say(1, 5, 0, 0, false);
            x.say(4, 5, 0, 4, false);
            Check.is("though one told him", x.saying(2, 7), 0);
            x.say(3, 5, 0, 2, false);
            Check.is("what is told beside a dream", x.saying(3, 7), 2);
        }, "default: return 0;", "default: return 1 << ledger.person[saying];",
                "default: return 0;", "default: return eyesOfAll(tellers[saying] & solid);",
                "return eyesOfAll(tellers[saying] & solid);",
                        "return eyesOfAll(tellers[saying] & solid) | (tellers[saying] & dreamt);");
    }

    private static void eyesOfOthers(Edges edges) {
        edges.of(PART, "by TOLD all EYES of all SAYINGS by which he could be told so", () -> {
            EndingTown x = Check.of("stem a;stem b;places 2;thing 0 0 3;"
                    + "thing 1 0 3;person;person;person;person;person;person;at 5 0 1;at 5 4 0;at 4 7 1;");
            x.say(0, 5, 0, 0, false);
            Check.is("who saw it himself isn't counted ", x.saying(0, 7), 1);
            x.say(1, 5, 0, 0, false);
            x.say(2, 6, 0, 2, false);
            x.say(5, 6, 0, 2, false);
            Check.is("of two", x.saying(3, 7), 1 | 2);
            x.say(3, 6, 0, 0, false);
            Check.is("of three, at the same HOUR", x.saying(3, 7), 1 | 2 | 8);
            Check.is("of three, though he saw it, too", x.saying(2, 7), 1 | 2 | 8);
            x.say(4, 7, 0, 0, false);
            Check.is("not of later ones", x.saying(3, 7), 1 | 2 | 8);
            x.say(5, 8, 0, 2, false);
            Check.is("nor of those elsewhere", x.saying(6, 7), 1 | 2 | 8);
            x.say(2, 5, 1, 0, false);
            Check.is("nor of another THING", x.saying(3, 7), 1 | 2 | 8);
        }, "return eyesOfAll(tellers[saying] & solid);", "return eyesOfAll(Integer.lowestOneBit(tellers[saying] & solid));",
                "return eyesOfAll(tellers[saying] & solid);",
                        "return eyesOfAll(about[aboutRow(ledger.thing[saying], ledger.not[saying])] & solid);",
                "return eyesOfAll(tellers[saying] & solid);", "return eyesOfAll(heard[saying] & solid);");
        edges.of(PART, "by WORKED OUT of all THINGS of all such RULES that he COULD say, by all HOWS but DREAMT",
                LeanEdges::workedOut,
                "bits |= tailEyes(saying, town.tail[rule]);", "return tailEyes(saying, town.tail[rule]);",
                "if (town.follows(rule, thing, can[saying])) {", "if (town.head[rule] == thing) {",
                "bits |= thingEyes[saying * MOST_THINGS + thing];", "bits = thingEyes[saying * MOST_THINGS + thing];",
                "int seen = thingEyes[row] | ruleEyes(saying, thing)", "int seen = thingEyes[row]",
                "| eyesOfAll(heard[saying] & about[aboutRow(thing, false)] & solid);", "| 0;",
                "| eyesOfAll(heard[saying] & about[aboutRow(thing, false)] & solid);",
                "| eyesOfAll(heard[saying] & about[aboutRow(thing, false)] & solid) | (about[aboutRow(thing, false)] & dreamt);",
                "if (hasBit(bare[saying], thing)) {", "if (hasBit(bare[saying], thing) && seen == 0) {",
                "can[i] = widest(heard[i] & solid, bare[i]);", "can[i] |= 0;");
        edges.of(PART, "what leans round in a ring has no more by that", () -> {
            EndingTown x = Check.of("stem a;stem b;places 2;thing 0 0 3;thing 1 1 3;person;person;person;person;at 1 0 1;"
                    + "at 1 4 0;at 2 0 1;at 2 4 0;at 3 0 1;at 3 4 0;rule 0 1;rule 1 0;");
            x.say(1, 5, 0, 2, false);
            x.say(2, 5, 0, 2, false);
            x.say(3, 5, 0, 2, false);
            x.say(0, 5, 0, 0, false);
            for (int i = 0; i < 4; i++) {
                Check.is("eyes of " + i, x.saying(i, 7), 1);
            }
            EndingTown y = Check.of("stem a;stem b;stem c;places 2;thing 0 0 3;thing 1 1 3;thing 2 1 3;person;person;"
                    + "rule 1 0;rule 2 1;rule 1 2;");
            y.say(0, 5, 1, 3, false);
            y.say(1, 5, 1, 2, false);
            y.say(0, 6, 1, 3, false);
            Check.is("round by RULES", y.saying(0, 7), 1);
            Check.is("and by words", y.saying(1, 7), 1);
            Check.is("and back", y.saying(2, 7), 1);
        }, "return eyesOfAll(tellers[saying] & solid);", "return eyesOfAll(tellers[saying] & solid) | 1 << "
                + "ledger.person[saying];",
                "MOST_TURNS = MOST_PEOPLE * MOST_ROUNDS;", "MOST_TURNS = 1;");
    }

    private static void workedOut() {
        EndingTown x = Check.of("stem a;stem b;stem c;stem d;stem e;stem f;places 4;near 0 1;thing 0 2 3;thing 1 1 3 "
                + "loud;thing 2 2 3;thing 3 3 3;thing 4 2 3;thing 5 0 3;person;person;person;person;at 1 0 2;at 1 4 0;"
                + "at 2 0 2;at 2 4 0;at 3 0 1;at 3 4 0;rule 0 1;rule 0 2 5;rule 0 3 2;rule 0 4 1;rule 4 2;");
        x.say(0, 5, 0, 3, false);
        Check.is("his own ears", x.saying(0, 7), 1);
        x.say(3, 5, 1, 0, false);
        Check.is("and one who told him the same", x.saying(0, 7), 1 | 8);
        x.say(1, 5, 2, 4, false);
        Check.is("no dreams", x.saying(0, 7), 1 | 8);
        x.say(1, 5, 2, 0, false);
        Check.is("by a second RULE", x.saying(0, 7), 1 | 2 | 8);
        x.unsay();
        x.unsay();
        x.say(2, 5, 4, 0, false);
        Check.is("by what is told of another RULE's ground", x.saying(0, 7), 1 | 4 | 8);
        x.unsay();
        x.unsay();
        x.say(1, 5, 2, 0, false);
        Check.is("by a RULE with what he saw", x.saying(0, 7), 1 | 2);
        EndingTown y = Check.of("stem a;stem b;stem c;places 2;thing 0 1 3;thing 1 1 3;thing 2 1 3;person;person;at 1 3 1;"
                + "at 1 4 0;rule 0 1;rule 1 2;");
        y.say(0, 5, 0, 3, false);
        y.say(1, 5, 2, 0, false);
        Check.is("what is worked out of what is told", y.saying(0, 7), 2);
        halfRule();
        longerRule();
    }

    private static void halfRule() {
        EndingTown x = Check.of("stem a;stem b;stem c;stem d;places 2;near 0 1;thing 0 1 3;thing 1 1 3 loud;thing 2 1 3;thing "
                + "3 1 3;person;person;person;person;at 1 3 1;at 1 4 0;at 2 3 1;at 2 4 0;at 3 3 1;at 3 4 0;rule 0 1 2;rule 0 3;");
        x.say(1, 5, 3, 0, false);
        x.say(2, 5, 1, 0, false);
        x.say(0, 5, 0, 3, false);
        x.say(3, 5, 2, 4, false);
        Check.is("half a RULE lends none", x.saying(2, 7), 2);
        x.say(3, 5, 2, 0, false);
        Check.is("a whole one all, and his own ears, too", x.saying(2, 7), 1 | 2 | 4 | 8);
    }

    /** It holds in ROUND 2 by one RULE; another one comes to hold only later, and lends its eyes all the same. */
    private static void longerRule() {
        EndingTown x = Check.of("stem a;stem b;stem c;stem d;stem e;places 2;thing 0 1 3;thing 1 0 3;thing 2 1 3;"
                + "thing 3 1 3;thing 4 1 3;person;person;at 1 3 1;at 1 4 0;rule 0 1;rule 0 4;rule 4 3;rule 3 2;");
        x.say(0, 5, 0, 3, false);
        x.say(1, 5, 2, 0, false);
        Check.is("in ROUND 2", x.saying(0, 6), 2);
        Check.is("all eyes", x.saying(0, 7), 1 | 2);
    }

    private static void rings(Edges edges) {
        edges.of(PART, "RINGS: SAYINGS that don't hold, but would, if holding were asked from above", () -> {
            EndingTown x = Check.of("stem a;stem b;thing 0 0 9;thing 1 0 0;person;person;person;person;person;person;");
            for (int person = 0; person < 6; person++) {
                x.say(person, 5, 0, 2, false);
                Check.is("a ring of " + (person + 1), x.wrong(1), person == 0 ? 0 : (2 << person) - 1);
            }
            x.say(0, 4, 0, 2, false);
            x.say(0, 5, 0, 0, false);
            x.say(0, 5, 0, 4, false);
            x.say(0, 5, 1, 0, false);
            x.say(1, 5, 1, 2, false);
            x.say(2, 5, 1, 2, false);
            Check.is("what holds is no ring", x.wrong(1), 63);
            Check.is("what doesn't", x.wrong(0), 255);
        }, "return left & ~held;", "return left;",
                "return left & ~held;", "return ledger.every() & ~held;",
                "return left & ~held;", "return 0;");
        edges.of(PART, "all are taken to hold; all those that, by those that are left, don't are left out at once, again and "
                + "again, till all that are left do", () -> {
            EndingTown x = Check.of(HoldEdges.LONG_WAY);
            HoldEdges.sayLongWay(x, 1);
            Check.is("eleven that lean on one", x.wrong(0), 2047);
            Check.is("one after the other is left out", x.wrong(1), 0);
            x.say(0, 23, 0, 2, false);
            x.say(1, 23, 0, 2, false);
            Check.is("what leans on each other is left", x.wrong(1), 6144);
        }, "turn <= MOST_SAYINGS; turn++", "turn <= 8; turn++",
                "left = standing(left, left & ~dreamt);", "left = standing(left, ledger.every() & ~dreamt);",
                "left = standing(left, left & ~dreamt);", "left = standing(left, held);");
        edges.of(PART, "(COULD of RULES' THINGS being asked from the ground up by SAYINGS that are left)", () -> {
            EndingTown x = Check.of("stem a;stem b;stem c;stem d;places 2;thing 0 1 9;thing 1 1 9;thing 2 1 9;"
                    + "thing 3 0 9;person;person;rule 1 0;rule 0 1;rule 2 1;rule 2 3;");
            x.say(0, 5, 1, 3, false);
            Check.is("RULES round in a ring are no ground", x.wrong(1), 0);
            x.say(1, 5, 0, 3, false);
            Check.is("SAYINGS that are left are", x.wrong(1), 3);
            x.say(0, 5, 2, 3, false);
            Check.is("by way of another THING, too", x.wrong(1), 7);
            x.say(0, 4, 2, 3, false);
            Check.is("not ahead of them", x.wrong(1), 7);
            x.unsay();
            x.unsay();
            x.unsay();
            x.say(1, 5, 0, 4, false);
            Check.is("a dream is no ground", x.wrong(1), 0);
            EndingTown y = Check.of(HoldEdges.LONG_WAY);
            y.say(5, 0, 0, 2, false);
            y.say(5, 23, 6, 3, false);
            Check.is("six RULES on, of nothing", y.wrong(1), 0);
            y.say(4, 6, 0, 2, false);
            y.say(5, 6, 0, 2, false);
            Check.is("six RULES on, of a ring", y.wrong(1), 2 | 4 | 8);
        }, "widest(heard[i] & told, bare[i])", "widest(heard[i] & solid, bare[i])",
                "widest(heard[i] & told, bare[i])", "255",
                "wider != bits && round < MOST_THINGS; round++", "wider != bits && round < 3; round++",
                "left = standing(left, left & ~dreamt);", "left = standing(left, left);");
    }
}
