/** ==== 2: words, their ways, and what is uttered. */
final class WordEdges {
    private static final String PART = "==== 2";

    private WordEdges() {
    }

    static void tell(Edges edges) {
        words(edges);
        ways(edges);
        utterances(edges);
        clear(edges);
    }

    private static void word(EndingTown x, int stem, int by, int how, String due) {
        String call = "word(" + stem + ", " + by + ", " + how + ", ";
        Check.is(call + "-1)", x.word(stem, by, how, -1), due.length());
        for (int i = 0; i < due.length() && i < x.word(stem, by, how, -1); i++) {
            Check.is(call + i + ")", x.word(stem, by, how, i), due.charAt(i));
        }
    }

    private static void words(Edges edges) {
        edges.of(PART, "A WORD of a STEM, BY, HOW: the STEM and the ENDING, one behind the other", () -> {
            EndingTown x = Check.of("stem a;stem abcdefgh;ending 0 0 z;ending 2 4 ijklmnop;");
            word(x, 0, 0, 0, "az");
            word(x, 1, 0, 0, "abcdefghz");
            word(x, 0, 2, 4, "aijklmnop");
            word(x, 1, 2, 4, "abcdefghijklmnop");
            word(x, 1, 2, 3, "");
        }, "add(stem, 0, length[stem]); add(ending, 0, length[ending]);",
                "add(ending, 0, length[ending]); add(stem, 0, length[stem]);",
                "MOST_MADE = 3 * MOST_LETTERS", "MOST_MADE = 2 * MOST_LETTERS - 1",
                "if (length[ending] == 0) {", "if (length[ending] < 0) {");
        edges.of(PART, "but the first CHANGE of which the first LETTERS end the STEM", () -> {
            EndingTown x = Check.of("stem bab;stem b;stem xbab;ending 0 0 z;change ba z p;change abab z q;"
                    + "change bab z r;change b z s;");
            word(x, 0, 0, 0, "r");
            word(x, 1, 0, 0, "s");
            word(x, 2, 0, 0, "xr");
            EndingTown y = Check.of("stem abcdefgx;stem a;ending 0 0 z;change xa z q;");
            word(y, 1, 0, 0, "az");
        }, "standsAt(stem, length[stem] - length[old], old)", "standsAt(stem, 0, old)",
                "for (int change = 0; change < changes; change++) {", "for (int change = changes - 1; change >= 0; change--) {",
                "return i >= 0 && i + length[part]", "return i > 0 && i + length[part]",
                "return i >= 0 && i + length[part]", "return i >= -1 && i + length[part]");
        edges.of(PART, "and the second ones begin the ENDING", () -> {
            EndingTown x = Check.of("stem a;ending 0 0 bcb;ending 0 1 b;ending 0 2 bcbd;change a cb p;change a bcbb q;"
                    + "change a bcb r;change a b s;");
            word(x, 0, 0, 0, "r");
            word(x, 0, 0, 1, "s");
            word(x, 0, 0, 2, "rd");
        }, "standsAt(ending, 0, changeSlot(change, 1))", "true",
                "standsAt(ending, 0, changeSlot(change, 1))", "length[changeSlot(change, 1)] <= length[ending]",
                "i + length[part] <= length[slot]", "i + length[part] < length[slot]");
        edges.of(PART, "puts its third ones in place of both.", () -> {
            EndingTown x = Check.of("stem abcdefgh;stem ax;ending 0 0 ijklmnop;ending 0 1 x;ending 0 2 xx;"
                    + "change h i rstuvwxy;change x x ax;change abcdefgh x z;");
            word(x, 0, 0, 0, "abcdefgrstuvwxyjklmnop");
            word(x, 0, 0, 1, "z");
            // only once, though what comes of it could be changed again
            word(x, 1, 0, 2, "aaxx");
            word(x, 1, 0, 1, "aax");
        }, "add(stem, 0, length[stem] - length[changeSlot(change, 0)]);", "add(stem, 0, length[stem] - 1);",
                "add(ending, length[changeSlot(change, 1)], length[ending]);", "add(ending, 0, length[ending]);",
                "MOST_MADE = 3 * MOST_LETTERS", "MOST_MADE = 3 * MOST_LETTERS - 3");
    }

    private static String fifteenAlike(String letters) {
        StringBuilder text = new StringBuilder();
        for (int i = 0; i < 15; i++) {
            text.append("ending ").append(i / 5).append(' ').append(i % 5).append(' ').append(letters).append(';');
        }
        return text.toString();
    }

    private static void ways(Edges edges) {
        edges.of(PART, "WAYS of a row of letters: STEM, BY, HOW of which it is the WORD", () -> {
            EndingTown x = Check.of("stem ab;stem a;stem x;ending 1 1 c;ending 2 2 bc;ending 0 0 y;change x y abc;");
            Check.is("in three", Check.apart(x, "abc"), 3);
            Check.is("in one", Check.apart(x, "xc"), 1);
            Check.is("changed", Check.apart(x, "xy"), 0);
            Check.is("one letter too few", Check.apart(x, "ab"), 0);
            Check.is("one too many", Check.apart(x, "abcc"), 0);
            Check.is("longer than any WORD", Check.apart(x, "abcdefghabcdefghabcdefghi"), 0);
            Check.is("800 letters", Check.apart(x, "a".repeat(800)), 0);
            Check.is("a STEM without an ENDING", Check.apart(x, "x"), 0);
            EndingTown y = Check.of("stem a;stem abcdefgh;ending 0 0 b;ending 0 1 ijklmnop;change a b c;change h i qrstuvwx;");
            Check.is("one letter", Check.apart(y, "c"), 1);
            Check.is("22 letters", Check.apart(y, "abcdefgqrstuvwxjklmnop"), 1);
            Check.is("their WAY", y.way(0), 16);
        }, "return many == madeLength && areSame(made, 0, row, from, many);", "return areSame(made, 0, row, from, many - 1);",
                "tongue.make(stem, by, how) == many && tongue.isMade(row, from, many)",
                "tongue.make(stem, by, how) > 0 && areSame(tongue.made, 0, row, from, tongue.madeLength)",
                "if (many < 1 || many > Tongue.MOST_MADE) {", "if (many < 4) {",
                "if (many < 1 || many > Tongue.MOST_MADE) {", "if (many < 2) {",
                "if (many < 1 || many > Tongue.MOST_MADE) {", "if (many < 1 || many > Tongue.MOST_MADE - 3) {");
        edges.of(PART, "by STEM, then BY, then HOW.", () -> {
            EndingTown x = Check.of("stem a;".repeat(12) + fifteenAlike("b"));
            Check.is("180 WAYS", Check.apart(x, "ab"), 180);
            for (int i = 0; i < 180; i++) {
                Check.is("way(" + i + ")", x.way(i), i);
            }
            Check.none("no more", () -> x.way(180));
        }, "MOST_WAYS = MOST_STEMS * BYS * HOWS;", "MOST_WAYS = MOST_STEMS * BYS * HOWS - 1;",
                "HOWS * BYS * stem + HOWS * by + how", "HOWS * BYS * stem + BYS * how + by",
                "for (int stem = 0; stem < tongue.stems; stem++) {", "for (int stem = tongue.stems - 1; stem >= 0; stem--) {");
    }

    private static final String TALK = "stem a;ending 2 0 b;not n;person;thing 0 0 0;";

    private static void clear(String text, int not) {
        EndingTown x = Check.of(TALK);
        Check.is("utter '" + text + "'", Check.utter(x, 0, 0, text), 1);
        Check.is("NOT of '" + text + "'", x.count(6) > 0 ? x.saying(0, 4) : -1, not);
    }

    private static void unclear(String text) {
        EndingTown x = Check.of(TALK);
        Check.is("utter '" + text + "'", Check.utter(x, 0, 0, text), -1);
    }

    private static void utterances(Edges edges) {
        edges.of(PART, "AN UTTERANCE: blanks perhaps, NOT and blanks perhaps, a WORD (a .. z), blanks perhaps", () -> {
            clear("ab", 0);
            clear(" ab", 0);
            clear("ab\n", 0);
            clear(" \n ab \n ", 0);
            clear("n ab", 1);
            clear("\n n\n\n ab  ", 1);
            clear(" ".repeat(395) + "n " + "\n".repeat(390) + "ab", 1);
            clear("n" + " ".repeat(797) + "ab", 1);
            EndingTown x = Check.of("stem a;ending 2 0 b;change a b c;not n;person;thing 0 0 0;");
            Check.is("a WORD of one letter", Check.utter(x, 0, 0, "c"), 1);
            Check.is("and NOT of it", Check.utter(x, 0, 0, "n c"), 2);
            unclear("");
            unclear(" ");
            unclear("n");
            unclear("n ");
            unclear("nab");
            unclear("ab n");
            unclear("n ab n");
            unclear("n n ab");
            unclear("n ab ab");
            unclear("ab ab");
            unclear("a b");
            unclear("m ab");
            unclear("nn ab");
            unclear("Ab");
            unclear("ab!");
            unclear("!ab");
            unclear("n\tab");
            unclear("n !ab");
            unclear("n ab\r");
            unclear("ab;");
            unclear("n ab" + " ".repeat(795) + "!");
        }, "if (many == 0 || at < end) {", "if (many == 0) {",
                "if (at < end) { not = true;", "if (at < end) { skipBlanks();",
                "if (!town.tongue.isNot(bytes, from, many)) {", "if (many == 0) {",
                "not = false; skipBlanks();", "not = false;",
                "from = at; many = takeWord(); skipBlanks();", "from = at; many = takeWord();",
                "int many = takeWord(); skipBlanks();", "int many = takeWord();",
                "at = 0; end = Math.min(n, bytes.length);",
                        "at = 0; end = Math.min(n, bytes.length - 1);");
        edges.of(PART, "(A WORD that is NOT's own stands for NOT, if another word comes behind it; an UTTERANCE of one word "
                + "is that WORD.)", () -> {
            EndingTown x = Check.of("stem n;ending 2 0 e;not ne;person;thing 0 0 0;");
            Check.is("one word", Check.utter(x, 0, 0, "ne"), 1);
            Check.is("without NOT", x.saying(0, 4), 0);
            Check.is("one word and blanks", Check.utter(x, 0, 0, " ne  "), 2);
            Check.is("without NOT", x.saying(1, 4), 0);
            Check.is("two", Check.utter(x, 0, 0, "ne ne"), 3);
            Check.is("with NOT", x.saying(2, 4), 1);
            Check.is("three", Check.utter(x, 0, 0, "ne ne ne"), -1);
        }, "if (at < end) { not = true;", "if (at < end || town.tongue.isNot(bytes, from, many)) { not = true;",
                "not = true;", "");
    }

    private static void clear(Edges edges) {
        edges.of(PART, "it is CLEAR, if its WORD has just one WAY", () -> {
            EndingTown x = Check.of("stem a;stem ab;stem c;ending 2 0 bd;ending 2 1 d;ending 0 0 e;ending 2 2 e;person;"
                    + "thing 0 0 0;thing 1 0 0;thing 2 0 0;");
            Check.is("one", Check.utter(x, 0, 0, "ad"), 1);
            Check.is("none", Check.utter(x, 0, 0, "zz"), -1);
            Check.is("two, both by BY 2", Check.utter(x, 0, 0, "abd"), -1);
            Check.is("two, one by BY 2", Check.utter(x, 0, 0, "ce"), -1);
            Check.is("all were counted", x.count(9), 3);
        }, "if (ways.found != 1) {", "if (ways.found < 1) {",
                "if (ways.found != 1) {", "if (ways.found > 1) {",
                "if (ways.found != 1) {", "if (ways.found != 1 && ways.found != 2) {");
        edges.of(PART, "by BY 2", () -> {
            EndingTown x = Check.of("stem a;ending 0 0 i;ending 1 0 u;ending 2 0 o;person;thing 0 0 0;");
            Check.is("I", Check.utter(x, 0, 0, "ai"), -1);
            Check.is("you", Check.utter(x, 0, 0, "au"), -1);
            Check.is("one", Check.utter(x, 0, 0, "ao"), 1);
        }, "return way / HOWS % BYS == ONE && thing != NONE;", "return thing != NONE;",
                "return way / HOWS % BYS == ONE && thing != NONE;", "return way / HOWS % BYS >= 1 && thing != NONE;");
        edges.of(PART, "and the STEM has a THING.", () -> {
            EndingTown x = Check.of("stem a;stem b;stem c;ending 2 3 z;person;thing 2 0 0;thing 0 0 0;");
            Check.is("the second THING", Check.utter(x, 0, 0, "az"), 1);
            Check.is("its number", x.saying(0, 2), 1);
            Check.is("no THING", Check.utter(x, 0, 0, "bz"), -1);
            Check.is("the first THING", Check.utter(x, 0, 0, "cz"), 2);
            Check.is("its number", x.saying(1, 2), 0);
            Check.is("its HOW", x.saying(1, 3), 3);
        }, "return way / HOWS % BYS == ONE && thing != NONE;",
                "thing = Math.max(0, thing); return way / HOWS % BYS == ONE;",
                "thing = town.thingOfStem(way / (HOWS * BYS));", "thing = way / (HOWS * BYS);");
    }
}
