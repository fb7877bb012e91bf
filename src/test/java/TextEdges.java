/** The terms, up to the FAULTS: what a TEXT is made of, and the most that there may be of each thing. */
final class TextEdges {
    private static final String TERMS = "Terms";

    private TextEdges() {
    }

    static void tell(Edges edges) {
        tokens(edges);
        lines(edges);
        longerLines(edges);
        tongue(edges);
        village(edges);
        things(edges);
        edges.plain(TERMS, "In quotes is what stands there");
        edges.plain(TERMS, "| one of some.");
        edges.plain("What it is", new StringBuilder("How one knows it is in the ending: a tongue of stems and endings, ")
                .append("by person and by how one knows, whose sounds change where they meet; words made, and taken apart ")
                .append("in all ways; a village through a day: who was where, what happened, loud or not, what follows from ")
                .append("what; what one says, and by which ending; which sayings hold, the shortest chain that shows it, ")
                .append("whose eyes and ears they hang on, rings that hang on nothing; the fewest endings changed so that ")
                .append("all hold; the fewest who, silent, leave a rumour without eyes; what is likely by who says it how; ")
                .append("what is known, and known to be known. ==== 1.").toString());
    }

    private static void tokens(Edges edges) {
        edges.of("What it is", "An object is used for at most 512 calls after it has been made; what later calls answer is free.",
                TextEdges::fiveHundredTwelveCalls,
                "private int refusedSayings;", "private byte refusedSayings;");
        edges.of(TERMS, "A TEXT of at most 800 bytes tells a TONGUE and a VILLAGE.", TextEdges::longestText,
                "end = Math.min(n, bytes.length); at = 0;",
                        "end = Math.min(n, bytes.length - 1); at = 0;",
                "MOST_BYTES = 800;", "MOST_BYTES = 780;");
        edges.of(TERMS, "TOKENS: words (a .. z, the longest row)", TextEdges::words,
                "b >= 'a' && b <= 'z'", "b > 'a' && b <= 'z'",
                "b >= 'a' && b <= 'z'", "b >= 'a' && b < 'z'",
                "b >= 'a' && b <= 'z'", "b >= '`' && b <= 'z'",
                "b >= 'a' && b <= 'z'", "b >= 'a' && b <= '{'",
                "b >= 'a' && b <= 'z'", "b >= 'a' && b <= 'z' || b >= 'A' && b <= 'Z'");
        edges.of(TERMS, "NUMBERS (1 to 3 digits)", TextEdges::numbers,
                "MOST_DIGITS = 3;", "MOST_DIGITS = 2;",
                "MOST_DIGITS = 3;", "MOST_DIGITS = 4;",
                "b >= '0' && b <= '9'", "b >= '/' && b <= '9'",
                "b >= '0' && b <= '9'", "b >= '0' && b <= ':'",
                "b >= '0' && b <= '9'", "b >= '0' && b < '9'");
        edges.of(TERMS, "the sign ; and blanks (32, 10) between them, which count for nothing.", TextEdges::blanks,
                "b == 32 || b == 10", "b == 32",
                "b == 32 || b == 10", "b == 32 || b == 10 || b == 13",
                "b == 32 || b == 10", "b >= 0 && b <= 32",
                "bytes[at] == ';'", "(bytes[at] == ';' || bytes[at] == ',')");
        edges.of(TERMS, "* any number of times", TextEdges::anyNumberOfGrounds,
                "told <= MOST_GROUNDS && (told == 0 || kind == NUMBER)", "told <= MOST_GROUNDS && (told <= 1 || kind == NUMBER)",
                "told <= MOST_GROUNDS && (told == 0 || kind == NUMBER)", "told < 2 && (told == 0 || kind == NUMBER)");
        edges.of(TERMS, "[ ] perhaps", TextEdges::loudPerhaps,
                "if (is(\"loud\")) {", "if (kind == LETTERS) {",
                "if (is(\"never\")) {", "if (is(\"loud\") || is(\"never\")) {");
        edges.of(TERMS, "TEXT: LINE*.", TextEdges::noLine,
                "more = kind != OVER && readLine(town);", "more = readLine(town);",
                "more && line <= end; line++", "more && line < 1; line++",
                "line = 0; more && line <= end", "line = 0; more && line < end / 8");
    }

    private static void fiveHundredTwelveCalls() {
        EndingTown x = Check.of("stem a;person;thing 0 0 0;");
        for (int call = 4; call <= 510; call++) {
            x.say(0, 0, 0, 5, false);
        }
        Check.is("the 511th call", x.count(9), 507);
        Check.is("the 512th call", x.say(0, 0, 0, 0, false), 1);
    }

    private static void longestText() {
        EndingTown x = new EndingTown();
        String blanks = " ".repeat(786);
        Check.is("800 bytes", Check.village(x, "stem a;" + blanks + "person;"), 0);
        Check.is("their last line", x.count(3), 1);
        Check.is("799 bytes", Check.village(x, "stem a;" + blanks + "person"), 1);
        Check.is("end too soon", x.fault(), 799);
        Check.fault(1, "stem a;" + blanks + "person|,");
    }

    private static void words() {
        Check.fine("stem a;stem z;stem az;");
        Check.fault(1, "stem a|`;");
        Check.fault(1, "stem |`a;");
        Check.fault(1, "stem a|{;");
        Check.fault(1, "stem a|A;");
        Check.fault(1, "stem |Z;");
        Check.fault(1, "|stema;");
        Check.fault(1, "|ste m a;");
        EndingTown x = Check.of("stem azaz;ending 0 0 za;");
        Check.is("all letters of both", x.word(0, 0, 0, -1), 6);
    }

    private static void numbers() {
        Check.fine("places 3;near 2 1;");
        Check.fine("places 03;near 02 01;");
        Check.fine("places 003;near 002 001;");
        Check.fault(2, "places |0003;");
        Check.fine("weigh 0 999 90;");
        Check.fault(1, "places |/;");
        Check.fault(1, "places 1|/;");
        Check.fault(1, "places |:;");
        Check.fault(1, "places 2|:;");
        Check.fault(1, "places |-1;");
        Check.fault(1, "places |;");
        Check.fault(1, "places 1 |2;");
        Check.is("every figure", Check.of("weigh 0 123 456;weigh 1 789 0;").count(2), 1);
    }

    /** Every byte but letters and digits, which go on with a word or a NUMBER or begin one. */
    private static void blanks() {
        for (int b = 0; b < 256; b++) {
            char sign = (char) b;
            if (b == 32 || b == 10) {
                Check.fine("stem" + sign + "a" + sign + ";" + sign);
                Check.fine(sign + "stem a;" + sign + sign + "person;");
            } else if (b < 'a' || b > 'z') {
                Check.fault(1, "stem a;|" + sign);
                Check.fault(1, "stem|" + sign + "a;");
                Check.is("where ; stands, sign " + b, Check.village(new EndingTown(), "stem a" + sign), b == ';' ? 0 : 1);
            }
        }
        Check.fine("places2;near0 1;near1\n0;stem\n\n\na\n;");
    }

    private static void anyNumberOfGrounds() {
        String things = "stem a;stem b;stem c;stem d;thing 0 0 0;thing 1 0 0;thing 2 0 0;thing 3 0 0;";
        Check.fault(1, things + "rule 0|;");
        Check.fine(things + "rule 0 1;");
        Check.fine(things + "rule 0 1 2;");
        Check.fine(things + "rule 0 1 2 3;");
    }

    private static void loudPerhaps() {
        EndingTown x = Check.of("stem a;stem b;stem c;stem d;thing 0 0 0;thing 1 0 0 loud;thing 2 0 0 never;"
                + "thing 3 0 0 loud never;");
        for (int thing = 0; thing < 4; thing++) {
            Check.is("loud " + thing, x.thing(thing, 3), thing & 1);
            Check.is("never " + thing, x.thing(thing, 4), thing >> 1);
        }
        Check.fault(1, "stem a;thing 0 0 0 never |loud;");
        Check.fault(1, "stem a;thing 0 0 0 loud |loud;");
        Check.fault(1, "stem a;thing 0 0 0 never |never;");
        Check.fault(1, "stem a;thing 0 0 0 |quiet;");
    }

    private static void noLine() {
        Check.fine("");
        Check.fine(" ");
        Check.fine("\n");
        Check.fine("person;");
        EndingTown x = Check.of("weigh 0 0 0;".repeat(66) + "person;");
        Check.is("the 67th line", x.count(3), 1);
        Check.fault(1, "|;");
        Check.fault(1, "person;|;");
    }

    /** The line as it is; cut behind each of its TOKENS; with a word, a NUMBER, a sign more. */
    private static void line(String ahead, String line) {
        Check.fine(ahead + line + ";");
        for (int at = line.indexOf(' '); at > 0; at = line.indexOf(' ', at + 1)) {
            Check.fault(1, ahead + line.substring(0, at) + "|");
            Check.fault(1, ahead + line.substring(0, at) + "|;" + line.substring(at));
        }
        Check.fault(1, ahead + line + "|");
        Check.fault(1, ahead + line + " |more;");
        Check.fault(1, ahead + line + ";|;");
        Check.fault(1, ahead + line + ";" + line + "|");
        Check.fault(1, ahead + line + "|," + line + ";");
    }

    private static void lines(Edges edges) {
        edges.of(TERMS, "'stem' LETTERS", () -> {
            line("", "stem a");
            Check.fault(1, "stem a |1;");
        }, "tongue.stems++; return semicolon();", "tongue.stems++; return true;");
        edges.of(TERMS, "'ending' BY HOW LETTERS", () -> {
            Check.fine("ending 0 0 a;");
            Check.fault(1, "ending|;");
            Check.fault(1, "ending 0|;");
            Check.fault(1, "ending 0 0|;");
            Check.fault(1, "ending 0 0 a|");
            Check.fault(1, "ending 0 0 a |b;");
            Check.fault(1, "ending |a 0 0;");
        }, "letters(tongue, Tongue.endingSlot(by, how)) && semicolon()", "letters(tongue, Tongue.endingSlot(by, how))");
        edges.of(TERMS, "'change' LETTERS LETTERS LETTERS", () -> {
            line("", "change a b c");
            Check.fault(1, "change a b c |1;");
        }, "part < 3; part++", "part < 2; part++",
                "tongue.changes++; return semicolon();", "tongue.changes++; return true;");
        edges.of(TERMS, "'not' LETTERS", () -> {
            Check.fine("not a;");
            Check.fault(1, "not|");
            Check.fault(1, "not|;");
            Check.fault(1, "not a|");
            Check.fault(1, "not a |b;");
            Check.fault(1, "not |0;");
        }, "letters(tongue, Tongue.NOT_SLOT) && semicolon()", "letters(tongue, Tongue.NOT_SLOT)");
        edges.of(TERMS, "'places' NUMBER", () -> {
            Check.fine("places 1;");
            Check.fault(1, "places|");
            Check.fault(1, "places|;");
            Check.fault(1, "places 1|");
            Check.fault(1, "places 1 |1;");
            Check.fault(1, "places |a;");
        }, "town.places = value; return semicolon();", "town.places = value; return true;");
        edges.of(TERMS, "'near' PLACE PLACE", () -> {
            line("places 3;", "near 0 1");
            Check.fault(1, "places 3;near 0 1 |2;");
        }, "town.near[value] |= 1 << first; return semicolon();",
                "town.near[value] |= 1 << first; return true;");
        edges.of(TERMS, "'person'", () -> {
            line("", "person");
            Check.fault(1, "person |0;");
        }, "town.people++; return semicolon();", "town.people++; return true;");
    }

    private static void longerLines(Edges edges) {
        edges.of(TERMS, "'thing' STEM PLACE HOUR ['loud'] ['never']", () -> {
            String stems = "stem a;";
            Check.fine(stems + "thing 0 0 0;");
            Check.fault(1, stems + "thing|;");
            Check.fault(1, stems + "thing 0|;");
            Check.fault(1, stems + "thing 0 0|;");
            Check.fault(1, stems + "thing 0 0 0|");
            Check.fault(1, stems + "thing 0 0 0 |0;");
            Check.fault(1, stems + "thing 0 0 0 loud|");
            Check.fault(1, stems + "thing 0 0 0 loud never|");
            Check.fault(1, stems + "thing 0 0 0 loud never |loud;");
            Check.fault(1, stems + "thing 0 0 |loud;");
        }, "step(); } return isSemicolon();", "step(); } return true;");
        edges.of(TERMS, "'rule' THING THING THING*", () -> {
            String things = "stem a;stem b;thing 0 0 0;thing 1 0 0;";
            line(things, "rule 0 1");
            Check.fault(1, things + "rule |a 1;");
            Check.fault(1, things + "rule 0 |a;");
        }, "town.rules++; return isSemicolon();", "town.rules++; return true;");
        edges.of(TERMS, "'at' PERSON HOUR PLACE", () -> {
            line("person;", "at 0 0 0");
            Check.fault(1, "person;at 0 0 0 |0;");
        }, "town.stays[person * HOURS + hour] = value; return semicolon();",
                "town.stays[person * HOURS + hour] = value; return true;");
        edges.of(TERMS, "'weigh' HOW CHANCE CHANCE) ';'.", () -> {
            line("", "weigh 0 0 0");
            Check.fault(1, "weigh 0 0 0 |0;");
        }, "town.chances[2 * how + 1] = value; return semicolon();",
                "town.chances[2 * how + 1] = value; return true;");
        edges.of(TERMS, "LINE: ('stem' LETTERS | 'ending' BY HOW LETTERS | 'change' LETTERS LETTERS LETTERS | 'not' LETTERS | "
                + "'places' NUMBER | 'near' PLACE PLACE | 'person' | 'thing' STEM PLACE HOUR ['loud'] ['never'] | "
                + "'rule' THING THING THING* | 'at' PERSON HOUR PLACE | 'weigh' HOW CHANCE CHANCE) ';'.", () -> {
            Check.fault(1, "|foo;");
            Check.fault(1, "|0;");
            Check.fault(1, "|stems a;");
            Check.fault(1, "|ste;");
            String[] names = {"stem", "ending", "change", "not", "places", "near", "person", "thing", "rule", "at", "weigh"};
            for (String name : names) {
                Check.fault(1, "|x" + name.substring(1) + " 0 0 0;");
                Check.fault(1, "|" + name.substring(0, name.length() - 1) + "x 0 0 0;");
                Check.fault(1, "|" + name.substring(1) + " 0 0 0;");
            }
            Check.fault(1, "|loud;");
            Check.fault(1, "person;|never;");
        }, "length != name.length()", "length < name.length()",
                "for (int i = 0; i < name.length(); i++) {", "for (int i = 1; i < name.length(); i++) {",
                "for (int i = 0; i < name.length(); i++) {", "for (int i = 0; i < name.length() - 1; i++) {");
        edges.of(TERMS, "LETTERS are a word of at most 8 letters; all else in capitals are NUMBERS.", () -> {
            Check.fine("stem a;stem abcdefgh;ending 0 0 a;ending 0 1 abcdefgh;not abcdefgh;change abcdefgh abcdefgh abcdefgh;");
            Check.fault(2, "stem |abcdefghi;");
            Check.fault(1, "ending |a 0 b;");
            Check.fault(1, "ending 0 |a b;");
            Check.fault(1, "weigh 0 |a 0;");
            Check.fault(1, "stem |0;");
        }, "MOST_LETTERS = 8;", "MOST_LETTERS = 7;",
                "MOST_LETTERS = 8;", "MOST_LETTERS = 9;",
                "if (kind != NUMBER) {", "if (kind != NUMBER && kind != LETTERS) {",
                "if (kind != LETTERS) {", "if (kind != LETTERS && kind != NUMBER) {");
    }

    static final String TWELVE_STEMS =
            "stem a;stem b;stem c;stem d;stem e;stem f;stem g;stem h;stem i;stem j;stem k;stem l;";
    static final String EIGHT_THINGS = "thing 0 0 0;thing 1 0 0;thing 2 0 0;thing 3 0 0;thing 4 0 0;thing 5 0 0;"
            + "thing 6 0 0;thing 7 0 0;";

    private static void tongue(Edges edges) {
        edges.of(TERMS, "STEMS 0, 1 .. (at most 12).", () -> {
            EndingTown x = Check.of(TWELVE_STEMS + "ending 0 0 z;");
            Check.is("stems", x.count(0), 12);
            Check.is("stem 0", x.word(0, 0, 0, 0), 'a');
            Check.is("stem 11", x.word(11, 0, 0, 0), 'l');
            Check.none("no stem 12", () -> x.word(12, 0, 0, -1));
            Check.fault(2, TWELVE_STEMS + "|stem m;");
            Check.is("no stems", Check.of("person;").count(0), 0);
        }, "MOST_STEMS = 12;", "MOST_STEMS = 11;", "MOST_STEMS = 12;", "MOST_STEMS = 13;");
        edges.of(TERMS, "An ENDING for each BY (0 to 2: I, you, one) and each HOW (0 SEEN, 1 HEARD, 2 TOLD, 3 WORKED OUT, 4 "
                + "DREAMT), or none.", TextEdges::fifteenEndings,
                "FIRST_ENDING + HOWS * by + how", "FIRST_ENDING + BYS * by + how",
                "Arrays.fill(length, 0);", "length[NOT_SLOT] = 0;");
        edges.of(TERMS, "CHANGES 0, 1 .. (at most 6).", () -> {
            String five = "change a z a;change b z b;change c z c;change d z d;change e z e;";
            EndingTown x = Check.of("stem f;stem a;ending 0 0 z;" + five + "change f z yy;");
            Check.is("changes", x.count(1), 6);
            Check.is("the sixth", x.word(0, 0, 0, 0), 'y');
            Check.is("the first", x.word(1, 0, 0, -1), 1);
            Check.fault(2, five + "change f z x;|change g z x;");
            Check.is("none", Check.of("stem f;").count(1), 0);
            EndingTown y = Check.of("stem f;ending 0 0 z;not f;" + five + "change g z yy;");
            Check.is("none of six", y.word(0, 0, 0, -1), 2);
        }, "MOST_CHANGES = 6;", "MOST_CHANGES = 5;", "MOST_CHANGES = 6;", "MOST_CHANGES = 7;",
                "change < changes; change++", "change < changes - 1; change++",
                "change < changes; change++", "change < changes + 1; change++");
        edges.of(TERMS, "'not' tells the word NOT.", () -> {
            String text = "stem a;ending 2 0 b;person;thing 0 0 0;";
            Check.is("one letter", Check.utter(Check.of(text + "not n;"), 0, 0, "n ab"), 1);
            Check.is("eight letters", Check.utter(Check.of(text + "not abcdefgh;"), 0, 0, "abcdefgh ab"), 1);
            Check.is("another word", Check.utter(Check.of(text + "not abcdefgh;"), 0, 0, "abcdefg ab"), -1);
            Check.is("none told", Check.utter(Check.of(text), 0, 0, "n ab"), -1);
        }, "hasNot() && many == length[NOT_SLOT]", "hasNot() && many <= length[NOT_SLOT]",
                "if (!town.tongue.isNot(bytes, from, many)) {",
                        "if (town.tongue.hasNot() && !town.tongue.isNot(bytes, from, many)) {");
    }

    private static void fifteenEndings() {
        StringBuilder text = new StringBuilder("stem s;");
        for (int i = 14; i >= 0; i--) {
            text.append("ending ").append(i / 5).append(' ').append(i % 5).append(' ').append((char) ('a' + i)).append(';');
        }
        EndingTown x = Check.of(text.toString());
        for (int i = 0; i < 15; i++) {
            Check.is("ending " + i, x.word(0, i / 5, i % 5, 1), 'a' + i);
        }
        Check.village(x, "stem s;ending 1 1 a;");
        for (int i = 0; i < 15; i++) {
            Check.is("none but one, " + i, x.word(0, i / 5, i % 5, -1), i == 6 ? 2 : 0);
        }
    }

    private static void village(Edges edges) {
        edges.of(TERMS, "PLACES 0 .. (1 to 6; 1 without).", () -> {
            Check.is("without", Check.of("stem a;").count(2), 1);
            Check.is("one", Check.of("places 1;").count(2), 1);
            Check.is("six", Check.of("places 6;near 0 5;").count(2), 6);
            Check.fault(2, "places |0;");
            Check.fault(2, "places |7;");
            Check.fault(3, "places 6;near 0 |6;");
            Check.fault(3, "near 0 |1;");
        }, "MOST_PLACES = 6;", "MOST_PLACES = 5;", "MOST_PLACES = 6;", "MOST_PLACES = 7;",
                "tongue.clear(); places = 1;", "tongue.clear(); places = 2;",
                "tongue.clear(); places = 1;", "tongue.clear(); places = 0;");
        edges.of(TERMS, "PEOPLE 0, 1 .. (at most 6)", () -> {
            EndingTown x = Check.of("person;person;person;person;person;person;");
            Check.is("people", x.count(3), 6);
            Check.is("the sixth", x.where(5, 0), 0);
            Check.fault(2, "person;person;person;person;person;person;|person;");
            Check.is("none", Check.of("stem a;").count(3), 0);
        }, "MOST_PEOPLE = 6;", "MOST_PEOPLE = 5;", "MOST_PEOPLE = 6;", "MOST_PEOPLE = 7;");
        edges.of(TERMS, "each is at PLACE 0 from HOUR 0 on, and where 'at' tells, from that HOUR on", () -> {
            EndingTown x = Check.of("places 2;person;person;person;person;at 1 1 1;at 2 23 1;at 3 0 1;");
            int[] first = {24, 1, 23, 0};
            for (int person = 0; person < 4; person++) {
                for (int hour = 0; hour < 24; hour++) {
                    Check.is(person + " at " + hour, x.where(person, hour), hour < first[person] ? 0 : 1);
                }
            }
        }, "int place = 0; for (int hour = 0;", "int place = places - 1; for (int hour = 0;",
                "int place = 0; for (int hour = 0;", "int place = 0; for (int hour = 1;",
                "hour = 0; hour < HOURS; hour++) { int i",
                        "hour = 0; hour < HOURS - 1; hour++) { int i",
                "place = stays[i];", "place = 0;");
        edges.of(TERMS, "till another one tells otherwise (of one HOUR the last one that is told).", () -> {
            EndingTown x = Check.of("places 4;person;person;at 0 5 1;at 0 9 2;at 0 5 3;at 0 2 1;at 1 0 3;at 1 0 2;"
                    + "at 1 23 1;at 1 23 0;");
            for (int hour = 0; hour < 24; hour++) {
                Check.is("0 at " + hour, x.where(0, hour), hour < 2 ? 0 : hour < 5 ? 1 : hour < 9 ? 3 : 2);
                Check.is("1 at " + hour, x.where(1, hour), hour < 23 ? 2 : 0);
            }
        }, "town.stays[person * HOURS + hour] = value;",
                "town.stays[person * HOURS + hour] = town.stays[person * HOURS + hour] == NONE ? value : town.stays[person * "
                        + "HOURS + hour];",
                "town.stays[person * HOURS + hour] = value;",
                "for (int h = hour; h < HOURS; h++) { town.stays[person * HOURS + h] = value; }");
    }

    private static void things(Edges edges) {
        edges.of(TERMS, "THINGS 0, 1 .. (at most 8): a STEM (of which there is but one THING), a PLACE, an HOUR (0 to 23)",
                () -> {
            EndingTown x = Check.of(TWELVE_STEMS + "places 6;thing 11 5 23;thing 0 0 0;thing 1 0 0;thing 2 0 0;"
                    + "thing 3 0 0;thing 4 0 0;thing 5 0 0;thing 6 0 0;");
            Check.is("things", x.count(4), 8);
            Check.is("the first STEM", x.thing(0, 0), 11);
            Check.is("its PLACE", x.thing(0, 1), 5);
            Check.is("its HOUR", x.thing(0, 2), 23);
            Check.is("the eighth STEM", x.thing(7, 0), 6);
            Check.is("its PLACE", x.thing(7, 1), 0);
            Check.is("its HOUR", x.thing(7, 2), 0);
            Check.fault(2, TWELVE_STEMS + EIGHT_THINGS + "|thing 8 0 0;");
            Check.fault(2, "stem a;thing 0 0 |24;");
            Check.fault(4, "stem a;stem b;thing 0 0 0;thing |0 0 0;");
            Check.is("none", Check.of("stem a;").count(4), 0);
        }, "MOST_THINGS = 8;", "MOST_THINGS = 7;", "MOST_THINGS = 8;", "MOST_THINGS = 9;", "HOURS = 24;", "HOURS = 23;",
                "if (town.thingOfStem(value) != NONE) {", "if (town.thingOfStem(value) > 0) {");
        edges.of(TERMS, "LOUD or not; NEVER: it did not happen.", () -> {
            EndingTown x = Check.of("stem a;stem b;stem c;places 2;near 0 1;person;person;at 1 0 1;thing 0 0 0;"
                    + "thing 1 0 0 loud;thing 2 0 0 loud never;");
            Check.is("0 saw it", x.could(0, 0, 0, false), 1 | 16);
            Check.is("1 didn't hear it", x.could(1, 0, 0, false), 16);
            Check.is("1 heard it", x.could(1, 0, 1, false), 2 | 16);
            Check.is("0 didn't see it", x.could(0, 0, 2, false), 16);
            Check.is("0 saw that it was not", x.could(0, 0, 2, true), 1 | 16);
            Check.is("1 didn't hear it", x.could(1, 0, 2, false), 16);
            Check.is("as loud as it would have been", x.thing(2, 3), 1);
        }, "town.loud |= 1 << thing;", "town.loud |= 2;",
                "town.loud |= 1 << thing;", "town.loud |= 0;",
                "town.never |= 1 << thing;", "town.never = 0;");
        edges.of(TERMS, "RULES 0, 1 .. (at most 6): the first THING follows from all others (1 to 3) together.", () -> {
            String things = "stem a;stem b;stem c;stem d;places 2;person;thing 0 1 0;thing 1 0 0;thing 2 0 0;thing 3 0 1;";
            EndingTown x = Check.of(things + "rule 1 0;rule 2 0;rule 3 0;rule 1 0;rule 2 0;rule 0 1 2 3;");
            Check.is("rules", x.count(5), 6);
            Check.is("one of three lacks", x.could(0, 0, 0, false), 16);
            Check.is("all three", x.could(0, 1, 0, false), 8 | 16);
            Check.fault(2, things + "rule 1 0;".repeat(6) + "|rule 1 0;");
            Check.fault(1, things + "rule 1|;");
            Check.is("from one", Check.of(things + "rule 0 3;").could(0, 1, 0, false), 8 | 16);
            Check.is("none", Check.of(things).count(5), 0);
        }, "MOST_RULES = 6;", "MOST_RULES = 5;", "MOST_RULES = 6;", "MOST_RULES = 7;", "MOST_GROUNDS = 3;", "MOST_GROUNDS = 2;",
                "head[rule] == thing && (tail[rule] & ~can) == 0", "head[rule] == thing && (tail[rule] & can) != 0");
        edges.of(TERMS, "WEIGH of a HOW: two CHANCES (0 to 1000; 500 both at first).", () -> {
            EndingTown x = Check.of("stem a;person;person;thing 0 0 0;weigh 1 0 999;weigh 2 999 0;weigh 3 0 0;weigh 3 1 0;");
            int[] due = {500000, 0, 1000000, 1000000, 500000};
            for (int how = 0; how < 5; how++) {
                x.say(0, 0, 0, how, false);
                Check.is("by " + how, x.likely(1, 0), due[how]);
                x.unsay();
            }
            Check.fault(2, "weigh 0 |1000 0;");
            Check.fault(2, "weigh 0 0 |1000;");
        }, "number(1000)) { return false; } town.chances[2 * how] = value;",
                "number(998)) { return false; } town.chances[2 * how] = value;",
                "number(1000)) { return false; } town.chances[2 * how + 1] = value;",
                "number(998)) { return false; } town.chances[2 * how + 1] = value;",
                "Arrays.fill(chances, 500);", "Arrays.fill(chances, 500); chances[0] = 501;",
                "Arrays.fill(chances, 500);", "Arrays.fill(chances, 500); chances[9] = 501;");
    }
}
