/** The terms on FAULTS: which one, and where. */
final class FaultEdges {
    private static final String TERMS = "Terms";
    private static final String STEMS = TextEdges.TWELVE_STEMS;
    private static final String THINGS = STEMS + TextEdges.EIGHT_THINGS;

    private FaultEdges() {
    }

    static void tell(Edges edges) {
        order(edges);
        cannotStand(edges);
        tooMuch(edges);
        tooMany(edges);
        notTold(edges);
        toldAlready(edges);
        placesBehind(edges);
    }

    private static void order(Edges edges) {
        edges.of(TERMS, "FAULTS, the first along the text", () -> {
            Check.fault(4, "places 2;near 1 |1;near 0 7;stem 1;foo");
            Check.fault(5, "stem a;thing 0 0 0;|places 9;");
            Check.fault(3, "near |1 1000;");
            Check.fault(1, "|foo;stem abcdefghi;");
            Check.fault(2, "ending |3 9 abcdefghi;");
            Check.fault(2, "stem |abcdefghi;foo;");
            Check.fault(2, "change |abcdefghi abcdefghi abcdefghi;");
            Check.fault(2, THINGS + "rule 0 1 2 3 |4 5;foo;");
            Check.fault(3, THINGS + "rule 0 |8 8;foo;");
            Check.fault(4, THINGS + "rule 0 1 |1 1;foo;");
            Check.fault(2, "places |0;foo;");
            Check.fault(4, "not a;|not b;foo;");
            Check.fault(4, "ending 0 0 a;ending 0 |0 b;foo;");
        }, "more = kind != OVER && readLine(town);",
                "boolean fine = kind == OVER || readLine(town); more = kind != OVER || !fine && at < end;");
        edges.of(TERMS, "at a TOKEN's first byte", () -> {
            Check.fault(2, "stem  \n |abcdefghi  ;");
            Check.fault(2, "places \n|1000  ;");
            Check.fault(1, "person  |personal ;");
            Check.fault(4, "not a; \n |not b;");
        }, "faultPlace = start;", "faultPlace = at;",
                "faultPlace = start;", "faultPlace = at - 1;");
        edges.of(TERMS, "of one TOKEN the least", () -> {
            Check.fault(1, "stem |1000;");
            Check.fault(1, "person |1000;");
            Check.fault(1, "|abcdefghijk;");
            Check.fault(2, "thing |1000 0 0;");
            Check.fault(2, "at |1000 0 0;");
            Check.fault(2, "near 0 |1000;");
            Check.fault(2, THINGS + "rule 0 1 2 3 |99;");
            Check.fault(2, THINGS + "rule 0 1 2 3 |1;");
            Check.fault(2, THINGS + "rule 0 1 2 3 |0;");
            Check.fault(4, "places 2;stem a;thing 0 0 0;|places 2;");
            Check.fault(4, "places 2;near 0 1;|places 2;");
            Check.fault(2, THINGS + "|thing 0 0 0;");
        }, "if (placesTold) { return refuse(4); } if (placesUsed) { return refuse(5); }",
                "if (placesUsed) { return refuse(5); } if (placesTold) { return refuse(4); }",
                "if (told >= MOST_GROUNDS) { return refuse(2); } if (value >= town.things) { return refuse(3); }",
                "if (value >= town.things) { return refuse(3); } if (told >= MOST_GROUNDS) { return refuse(2); }",
                "return isNumber(ANY) && (value < many || refuse(3));",
                        "return kind == NUMBER && value >= many ? refuse(3) : isNumber(ANY);");
    }

    private static void cannotStand(Edges edges) {
        edges.of(TERMS, "1 a TOKEN that can't stand there", () -> {
            Check.fault(1, "|a;");
            Check.fault(1, "|1;");
            Check.fault(1, "|;");
            Check.fault(1, "stem |1;");
            Check.fault(1, "stem |;");
            Check.fault(1, "places |a;");
            Check.fault(1, "places |;");
            Check.fault(1, "person |a;");
            Check.fault(1, "person |1;");
            Check.fault(1, "person;|;");
            Check.fault(1, THINGS + "rule 0 1 2 3 |a;");
        }, "return is(\"weigh\") ? weighLine(town) : refuse(1);",
                "return is(\"weigh\") ? weighLine(town) : kind == SEMICOLON || refuse(1);",
                "return kind == SEMICOLON || refuse(1);", "return kind == SEMICOLON || refuse(2);",
                "if (kind != NUMBER) { return refuse(1);",
                        "if (kind != NUMBER) { return refuse(2);",
                "if (kind != LETTERS) { return refuse(1);",
                        "if (kind != LETTERS) { return refuse(3);");
        edges.of(TERMS, "or is none", () -> {
            Check.fault(1, "|!");
            Check.fault(1, "|\u0000");
            Check.fault(1, "stem|\tb;");
            Check.fault(1, "stem a|\r\n;");
            Check.fault(1, "stem a;|\u00e9");
            Check.fault(1, "stem a;  |\u00ff");
            Check.fault(1, "places |+1;");
            Check.fault(1, "weigh 0 0|.5 0;");
        }, "kind = NO_TOKEN;", "kind = OVER;",
                "kind = NO_TOKEN;", "kind = SEMICOLON; at++;",
                "kind = NO_TOKEN;", "kind = NUMBER; at++;");
        edges.of(TERMS, "(the text's length where it ends too soon)", () -> {
            Check.fault(1, "person|");
            Check.fault(1, "person  \n |");
            Check.fault(1, "stem|");
            Check.fault(1, "stem a;ending 0 |");
            Check.fault(1, "stem a;thing 0 0 0 loud  |");
            Check.fault(1, THINGS + "rule 0 1 2 3|");
            EndingTown x = new EndingTown();
            Check.feed(x, "stem a;");
            Check.is("the text's, not the tape's", x.village(6), 1);
            Check.is("its length", x.fault(), 6);
        }, "kind = OVER;", "kind = OVER; start = Math.max(0, at - 1);");
    }

    private static void tooMuch(Edges edges) {
        edges.of(TERMS, "2 one that can, but is too much: a NUMBER of 4 digits or more", () -> {
            Check.fault(2, "ending |0000 0 a;");
            Check.fault(2, "ending 0 |0000 a;");
            Check.fault(2, "places |0001;");
            Check.fault(2, "places 2;near |0000 1;");
            Check.fault(2, "places 2;near 0 |0001;");
            Check.fault(2, "stem a;thing |0000 0 0;");
            Check.fault(2, "stem a;thing 0 |0000 0;");
            Check.fault(2, "stem a;thing 0 0 |0000;");
            Check.fault(2, THINGS + "rule |0000 1;");
            Check.fault(2, THINGS + "rule 0 |0001;");
            Check.fault(2, THINGS + "rule 0 1 2 |0003;");
            Check.fault(2, "person;at |0000 0 0;");
            Check.fault(2, "person;at 0 |0000 0;");
            Check.fault(2, "person;at 0 0 |0000;");
            Check.fault(2, "weigh |0000 0 0;");
            Check.fault(2, "weigh 0 |0000 0;");
            Check.fault(2, "weigh 0 0 |00000000000;");
            Check.fault(2, "places |4294967297;");
            Check.fault(2, "places |18446744073709551617;");
        }, "(length <= MOST_DIGITS && value <= most)", "(value <= most)",
                "(length <= MOST_DIGITS && value <= most)", "(length <= MOST_DIGITS + 1 && value <= most)",
                "return isNumber(ANY) && (value < many || refuse(3));", "return value < many || refuse(3);");
        edges.of(TERMS, "a BY above 2", () -> {
            Check.fine("ending 2 0 a;ending 002 1 a;");
            Check.fault(2, "ending |3 0 a;");
            Check.fault(2, "ending |999 0 a;");
        }, "number(BYS - 1)", "number(BYS)", "number(BYS - 1)", "number(BYS - 2)");
        edges.of(TERMS, "a HOW above 4", () -> {
            Check.fine("ending 0 4 a;weigh 4 0 0;");
            Check.fault(2, "ending 0 |5 a;");
            Check.fault(2, "weigh |5 0 0;");
            Check.fault(2, "weigh |999 0 0;");
        }, "int by = value; if (!number(HOWS - 1))", "int by = value; if (!number(HOWS))",
                "int by = value; if (!number(HOWS - 1))", "int by = value; if (!number(HOWS - 2))",
                "weighLine(Town town) { if (!number(HOWS - 1))",
                        "weighLine(Town town) { if (!number(HOWS))",
                "weighLine(Town town) { if (!number(HOWS - 1))",
                        "weighLine(Town town) { if (!number(HOWS - 2))");
        edges.of(TERMS, "an HOUR above 23", () -> {
            Check.fine("stem a;person;thing 0 0 23;at 0 23 0;");
            Check.fault(2, "stem a;thing 0 0 |24;");
            Check.fault(2, "stem a;thing 0 0 |999;");
            Check.fault(2, "person;at 0 |24 0;");
            Check.fault(2, "person;at 0 |999 0;");
        }, "town.placeOf[thing] = value; if (!number(HOURS - 1))",
                "town.placeOf[thing] = value; if (!number(HOURS))",
                "town.placeOf[thing] = value; if (!number(HOURS - 1))",
                        "town.placeOf[thing] = value; if (!number(HOURS - 2))",
                "int person = value; if (!number(HOURS - 1))",
                        "int person = value; if (!number(HOURS))",
                "int person = value; if (!number(HOURS - 1))",
                        "int person = value; if (!number(HOURS - 2))");
        edges.of(TERMS, "a CHANCE above 1000", () -> {
            Check.fine("weigh 0 999 999;weigh 4 000 000;");
            Check.fault(2, "weigh 0 |1001 0;");
            Check.fault(2, "weigh 0 0 |1001;");
            Check.fault(2, "weigh 0 |9999 0;");
            // a CHANCE of 1000 itself is a NUMBER of 4 digits
            Check.fault(2, "weigh 0 |1000 0;");
            Check.fault(2, "weigh 0 0 |1000;");
        }, "(length <= MOST_DIGITS && value <= most)", "(length <= (most == 1000 ? 4 : MOST_DIGITS) && value <= most)",
                "how = value; if (!number(1000))", "how = value; if (!number(998))");
        edges.of(TERMS, "places not 1 to 6", () -> {
            Check.fine("places 1;");
            Check.fine("places 6;");
            Check.fault(2, "places |0;");
            Check.fault(2, "places |000;");
            Check.fault(2, "places |7;");
            Check.fault(2, "places |999;");
        }, "if (value < 1) {", "if (value < 0) {", "if (value < 1) {", "if (value < 2) {",
                "number(MOST_PLACES)", "number(MOST_PLACES + 1)", "number(MOST_PLACES)", "number(MOST_PLACES - 1)");
        edges.of(TERMS, "LETTERS of more than 8", () -> {
            Check.fine("stem abcdefgh;ending 0 0 abcdefgh;change abcdefgh abcdefgh abcdefgh;not abcdefgh;");
            Check.fault(2, "stem |abcdefghi;");
            Check.fault(2, "ending 0 0 |abcdefghi;");
            Check.fault(2, "change |abcdefghi a a;");
            Check.fault(2, "change a |abcdefghi a;");
            Check.fault(2, "change a a |abcdefghi;");
            Check.fault(2, "not |abcdefghi;");
            Check.fault(2, "stem |" + "a".repeat(790) + ";");
        }, "if (length > MOST_LETTERS) {", "if (length > MOST_LETTERS + 1) {",
                "if (length > MOST_LETTERS) {", "if (length >= MOST_LETTERS) {");
    }

    private static void tooMany(Edges edges) {
        edges.of(TERMS, "the first TOKEN of the 13th STEM", () -> {
            Check.fine(STEMS);
            Check.fault(2, STEMS + "|stem m;");
            Check.fault(2, STEMS + "|stem 1;");
            Check.fault(2, STEMS + "|stem");
        }, "if (tongue.stems >= MOST_STEMS) {", "if (tongue.stems > MOST_STEMS) {",
                "if (tongue.stems >= MOST_STEMS) {", "step(); if (tongue.stems >= MOST_STEMS) {");
        edges.of(TERMS, "the 7th CHANGE", () -> {
            Check.fine("change a b c;".repeat(6));
            Check.fault(2, "change a b c;".repeat(6) + "|change a b c;");
            Check.fault(2, "change a b c;".repeat(6) + "|change 1");
        }, "if (change >= MOST_CHANGES) {", "if (change > MOST_CHANGES) {",
                "if (change >= MOST_CHANGES) {", "if (change >= MOST_CHANGES - 1) {");
        edges.of(TERMS, "the 7th PERSON", () -> {
            Check.fine("person;".repeat(6));
            Check.fault(2, "person;".repeat(6) + "|person;");
            Check.fault(2, "person;".repeat(6) + "|person");
        }, "if (town.people >= MOST_PEOPLE) {", "if (town.people > MOST_PEOPLE) {",
                "if (town.people >= MOST_PEOPLE) {", "if (town.people >= MOST_PEOPLE - 1) {");
        edges.of(TERMS, "the 9th THING", () -> {
            Check.fine(THINGS);
            Check.fault(2, THINGS + "|thing 8 0 0;");
            Check.fault(2, THINGS + "|thing loud");
        }, "if (thing >= MOST_THINGS) {", "if (thing > MOST_THINGS) {",
                "if (thing >= MOST_THINGS) {", "if (thing >= MOST_THINGS - 1) {");
        edges.of(TERMS, "the 7th RULE", () -> {
            Check.fine(THINGS + "rule 0 1;".repeat(6));
            Check.fault(2, THINGS + "rule 0 1;".repeat(6) + "|rule 0 1;");
            Check.fault(2, THINGS + "rule 0 1;".repeat(6) + "|rule");
        }, "if (rule >= MOST_RULES) {", "if (rule > MOST_RULES) {",
                "if (rule >= MOST_RULES) {", "if (rule >= MOST_RULES - 1) {");
        edges.of(TERMS, "the fourth THING that a RULE's first one follows from", () -> {
            Check.fine(THINGS + "rule 0 1 2 3;");
            Check.fault(2, THINGS + "rule 0 1 2 3 |4;");
            Check.fault(2, THINGS + "rule 0 1 2 3 |4 5 6 7;");
        }, "if (told >= MOST_GROUNDS) {", "if (told > MOST_GROUNDS) {",
                "if (told >= MOST_GROUNDS) {", "if (told >= MOST_GROUNDS - 1) {");
    }

    private static void notTold(Edges edges) {
        edges.of(TERMS, "3 a STEM", () -> {
            Check.fault(3, "thing |0 0 0;stem a;");
            Check.fault(3, "stem a;thing |1 0 0;");
            Check.fault(3, "stem a;thing |999 0 0;");
            Check.fine("stem a;stem b;thing 1 0 0;");
        }, "if (!oneOf(town.tongue.stems)) {", "if (!oneOf(town.tongue.stems + 1)) {",
                "if (!oneOf(town.tongue.stems)) {", "if (!oneOf(town.tongue.stems - 1)) {");
        edges.of(TERMS, "a PERSON", () -> {
            Check.fault(3, "at |0 0 0;person;");
            Check.fault(3, "person;at |1 0 0;");
            Check.fault(3, "person;at |999 0 0;");
            Check.fine("person;person;at 1 0 0;");
        }, "if (!oneOf(town.people)) {", "if (!oneOf(MOST_PEOPLE)) {",
                "if (!oneOf(town.people)) {", "if (!oneOf(town.people - 1)) {");
        edges.of(TERMS, "a THING that isn't told ahead", () -> {
            Check.fault(3, "rule |0 1;");
            Check.fault(3, "stem a;thing 0 0 0;rule |1 0;stem b;thing 1 0 0;");
            Check.fault(3, "stem a;thing 0 0 0;rule 0 |1;stem b;thing 1 0 0;");
            Check.fault(3, "stem a;stem b;thing 0 0 0;thing 1 0 0;rule 0 1 |2;");
            Check.fault(3, "stem a;stem b;thing 0 0 0;thing 1 0 0;rule 0 |999;");
            Check.fine("stem a;stem b;thing 0 0 0;thing 1 0 0;rule 1 0;");
        }, "if (!oneOf(town.things)) {", "if (!oneOf(town.things + 1)) {",
                "if (!oneOf(town.things)) {", "if (!oneOf(town.things - 1)) {",
                "if (value >= town.things) {", "if (value > town.things) {");
        edges.of(TERMS, "a PLACE that there isn't", () -> {
            Check.fault(3, "places 2;near |2 0;");
            Check.fault(3, "places 2;near 0 |2;");
            Check.fault(3, "places 2;stem a;thing 0 |2 0;");
            Check.fault(3, "places 2;person;at 0 0 |2;");
            Check.fault(3, "places 6;person;at 0 0 |6;");
            Check.fault(3, "near |1 0;");
            Check.fault(3, "stem a;thing 0 |1 0;");
            Check.fault(3, "person;at 0 0 |1;");
            Check.fine("places 2;near 1 0;stem a;thing 0 1 0;person;at 0 0 1;");
        }, "placesUsed = true; if (!oneOf(town.places)) {",
                "placesUsed = true; if (!oneOf(MOST_PLACES)) {",
                "int first = value; if (!oneOf(town.places)) {",
                        "int first = value; if (!oneOf(town.places + 1)) {",
                "town.stemOf[thing] = value; if (!oneOf(town.places)) {",
                "town.stemOf[thing] = value; if (!oneOf(town.places + 1)) {",
                "int hour = value; if (!oneOf(town.places)) {",
                        "int hour = value; if (!oneOf(town.places + 1)) {",
                "int hour = value; if (!oneOf(town.places)) {",
                        "int hour = value; if (!oneOf(town.places - 1)) {");
    }

    private static void toldAlready(Edges edges) {
        edges.of(TERMS, "4 an ENDING of a BY and HOW that was told already (at HOW)", () -> {
            Check.fault(4, "ending 0 0 a;ending 0 |0 a;");
            Check.fault(4, "ending 2 4 a;ending 2 |4 abcdefghi;");
            Check.fault(4, "ending 2 4 a;ending 2 |4;");
            Check.fine("ending 0 0 a;ending 0 1 a;ending 1 0 a;");
        }, "if (tongue.hasEnding(by, how)) {", "if (tongue.hasEnding(by, how) && by < 2) {",
                "if (tongue.hasEnding(by, how)) {", "step(); if (tongue.hasEnding(by, how)) {",
                "if (tongue.hasEnding(by, how)) {", "if (tongue.hasEnding(by, how) || tongue.hasEnding(by, 0)) {");
        edges.of(TERMS, "a second 'not'", () -> {
            Check.fault(4, "not a;|not a;");
            Check.fault(4, "not a;|not 1;");
            Check.fault(4, "not a;stem a;|not");
        }, "if (tongue.hasNot()) { return refuse(4);",
                "if (tongue.hasNot()) { return refuse(2);",
                "if (tongue.hasNot()) { return refuse(4);",
                        "if (tongue.hasNot() && tongue.stems > 0) { return refuse(4);");
        edges.of(TERMS, "a second 'not', 'places'", () -> {
            Check.fault(4, "places 1;|places 1;");
            Check.fault(4, "places 2;|places 9;");
            Check.fault(4, "places 2;person;|places");
        }, "placesTold = true;", "placesTold = town.people > 0;");
        edges.of(TERMS, "'near' of two that are one (at the second)", () -> {
            Check.fault(4, "near 0 |0;");
            Check.fault(4, "places 6;near 5 |5;");
            Check.fault(4, "places 6;near 5 |05;");
            Check.fine("places 6;near 5 4;near 4 5;near 5 4;");
        }, "if (value == first) {", "if (value == first && first > 0) {",
                "if (value == first) {", "if (value == first && town.places < 2) {",
                "if (value == first) {", "if (value == first || hasBit(town.near[first], value)) {");
        edges.of(TERMS, "a STEM that has a THING", () -> {
            Check.fault(4, "stem a;thing 0 0 0;thing |0 0 0;");
            Check.fault(4, "stem a;stem b;thing 1 0 0;thing 0 0 0;thing |1 9 99;");
            Check.fine("stem a;stem a;thing 0 0 0;thing 1 0 0;");
        }, "if (town.thingOfStem(value) != NONE) {", "if (town.thingOfStem(value) == 0) { return refuse(3); } if "
                + "(town.thingOfStem(value) != NONE) {",
                "if (town.thingOfStem(value) != NONE) {", "if (town.thingOfStem(value) == thing - 1) {");
        edges.of(TERMS, "a THING of a RULE that is the RULE's first one or told in it already", () -> {
            Check.fault(4, THINGS + "rule 7 |7;");
            Check.fault(4, THINGS + "rule 0 1 |0;");
            Check.fault(4, THINGS + "rule 0 1 2 |0;");
            Check.fault(4, THINGS + "rule 0 1 |1;");
            Check.fault(4, THINGS + "rule 0 1 2 |1;");
            Check.fine(THINGS + "rule 0 1;rule 0 1;rule 1 0;");
        }, "if (value == town.head[rule] || hasBit(town.tail[rule], value)) {", "if (value == town.head[rule]) {",
                "if (value == town.head[rule] || hasBit(town.tail[rule], value)) {", "if (hasBit(town.tail[rule], value)) {",
                "town.tail[rule] = 0;", "town.tail[rule] = rule > 0 ? town.tail[rule - 1] : 0;");
    }

    private static void placesBehind(Edges edges) {
        // 'near' needs 'places' ahead of it, so that 'places' behind it is always a second one: 4, the lesser
        edges.of(TERMS, "5 'places' behind 'near', 'thing' or 'at'.", () -> {
            Check.fault(5, "stem a;thing 0 0 0;|places 2;");
            Check.fault(5, "person;at 0 0 0;|places 2;");
            Check.fault(5, "person;at 0 0 0;|places 0;");
            Check.fault(5, "person;at 0 0 0;person;|places");
            Check.fault(4, "places 2;near 0 1;|places 2;");
            Check.fine("stem a;ending 0 0 a;change a a a;not a;person;weigh 0 0 0;places 6;");
        }, "thingLine(Town town) { placesUsed = true;", "thingLine(Town town) { placesUsed = false;",
                "atLine(Town town) { placesUsed = true;", "atLine(Town town) { placesUsed = false;",
                "personLine(Town town) {", "personLine(Town town) { placesUsed = true;");
    }
}
