/** ==== 4: MEND, SILENCE and LIKELY. */
final class MendEdges {
    private static final String PART = "==== 4";

    private MendEdges() {
    }

    static void tell(Edges edges) {
        fewestChanged(edges);
        changedHow(edges);
        silence(edges);
        likely(edges);
        weighed(edges);
    }

    private static void mend(EndingTown x, int changed, int... hows) {
        Check.is("mend()", x.mend(), changed);
        for (int i = 0; i < hows.length; i++) {
            Check.is("mended(" + i + ")", x.mended(i), hows[i]);
        }
    }

    private static final String SIX = "stem a;stem b;stem c;stem d;stem e;stem f;thing 0 0 0;thing 1 0 0;thing 2 0 0;"
            + "thing 3 0 0;thing 4 0 0;thing 5 0 0;person;person;";

    private static void fewestChanged(Edges edges) {
        edges.of(PART, "MEND: the fewest SAYINGS (of at most 12) that must be CHANGED so that all others HOLD", () -> {
            EndingTown x = Check.of(SIX);
            mend(x, 0);
            x.say(0, 0, 0, 0, false);
            mend(x, 0, 0);
            x.say(1, 0, 1, 1, false);
            mend(x, 1, 0, 0);
            EndingTown y = Check.of(SIX);
            for (int i = 0; i < 6; i++) {
                y.say(0, 0, i, 2, false);
                y.say(1, 0, i, 2, false);
            }
            mend(y, 6, 0, 2, 0, 2, 0, 2, 0, 2, 0, 2, 0, 2);
            y.say(0, 0, 0, 0, false);
            Check.is("of 13", y.mend(), -1);
            EndingTown z = Check.of(SIX);
            for (int i = 0; i < 12; i++) {
                z.say(0, 0, 0, 1, true);
            }
            mend(z, 12, 4, 4, 4, 4, 4, 4, 4, 4, 4, 4, 4, 4);
            EndingTown w = Check.of("stem a;places 2;thing 0 1 3;person;person;person;at 0 2 1;at 0 4 0;");
            w.say(0, 5, 0, 4, false);
            w.say(1, 5, 0, 2, false);
            w.say(2, 5, 0, 2, false);
            mend(w, 1, 0, 2, 2);
            w.say(1, 2, 0, 0, false);
            mend(w, 2, 0, 2, 2, 4);
            w.unsay();
            w.unsay();
            w.unsay();
            mend(w, 0, 4);
            // one later SAYING is fewer than two ahead of it, though the two are less as bits
            EndingTown v = Check.of("stem a;stem b;stem c;places 2;thing 0 1 0;thing 1 1 0;thing 2 1 0;person;person;"
                    + "at 1 0 1;at 1 1 0;rule 1 0;rule 2 0;");
            v.say(0, 5, 1, 3, false);
            v.say(0, 5, 2, 3, false);
            v.say(1, 5, 0, 4, false);
            mend(v, 1, 3, 3, 0);
        }, "MOST_MENDED = 12;", "MOST_MENDED = 11;", "MOST_MENDED = 12;", "MOST_MENDED = 13;",
                "for (int few = 0; few < many; few++) { int more = 0;",
                        "for (int few = 1; few < many; few++) { int more = 0;",
                "if ((ground.held | changed) == every) {", "if (ground.held == every) {",
                "if (Integer.bitCount(more) == few) {", "if (more >= 0) {",
                "int helpful = every & ~must & reachable & ~ground.solid;",
                        "int helpful = every & ~must & reachable & ~ground.held;");
        edges.of(PART, "and by DREAMT, if by none; of like ones the least as bits.", () -> {
            EndingTown x = Check.of("stem a;thing 0 0 3;person;person;person;person;");
            for (int person = 3; person >= 0; person--) {
                x.say(person, 5, 0, 2, false);
            }
            mend(x, 1, 0, 2, 2, 2);
            EndingTown y = Check.of("stem a;places 2;thing 0 1 3;person;person;person;at 1 3 1;at 1 4 0;at 2 3 1;at 2 4 0;");
            y.say(0, 5, 0, 2, false);
            y.say(2, 5, 0, 2, false);
            y.say(1, 5, 0, 2, false);
            mend(y, 1, 2, 0, 2);
            y.say(0, 2, 0, 2, false);
            mend(y, 2, 2, 0, 2, 4);
            y.say(2, 2, 0, 3, true);
            mend(y, 3, 2, 0, 2, 4, 4);
        }, "more = (more - helpful) & helpful;", "more = (more - 1) & helpful;",
                "hows[i] = hasBit(ground.held, i) ? ground.risenBy[i] : DREAMT;",
                        "hows[i] = hasBit(ground.held, i) ? ground.risenBy[i] : ledger.how[i];");
    }

    private static void changedHow(Edges edges) {
        String village = "stem a;stem b;stem c;places 3;near 0 1;thing 0 0 3;thing 1 1 3 loud;"
                + "thing 2 2 3;person;person;person;at 1 3 2;at 1 4 1;at 1 6 0;at 2 0 1;at 2 5 0;";
        edges.of(PART, "a CHANGED one is by that HOW of SEEN, HEARD, TOLD, WORKED OUT by which, from the ground up with all "
                + "others, it HOLDS in the first ROUND", () -> {
            EndingTown x = Check.of(village + "rule 2 0;");
            x.say(0, 5, 0, 1, false);
            x.say(0, 5, 1, 0, false);
            x.say(0, 5, 2, 0, false);
            mend(x, 3, 0, 1, 3);
            // 1 saw it and tells 2 at 4, and 2 tells 0 at 5: that is ROUND 3, behind the RULE's
            x.say(1, 4, 2, 0, false);
            x.say(2, 5, 2, 2, false);
            mend(x, 3, 0, 1, 3, 0, 2);
            EndingTown y = Check.of(village);
            y.say(0, 6, 2, 0, false);
            y.say(2, 5, 2, 1, false);
            y.say(1, 4, 2, 1, false);
            mend(y, 3, 2, 2, 0);
        }, "int how = hasBit(changed, i) ? firstBit(hows) : ledger.how[i];",
                "int how = hasBit(changed, i) ? (firstBit(hows) == HEARD ? SEEN : firstBit(hows)) : ledger.how[i];",
                "int hows = standingHows(i, solid, can[i]);",
                        "int hows = standingHows(i, solid, can[i]); if (hasBit(changed, i) && round < 3) { hows &= ~(1 << "
                                + "WORKED_OUT); }",
                "ground.rise(changed, ledger.every());", "ground.rise(0, ledger.every());");
        edges.of(PART, "(of like ones the first HOW)", () -> {
            EndingTown x = Check.of(village + "rule 2 0;");
            x.say(0, 6, 2, 0, false);
            x.say(1, 6, 2, 0, false);
            mend(x, 1, 2, 0);
            x.unsay();
            mend(x, 1, 3);
            EndingTown y = Check.of(village + "rule 1 0;rule 0 1;");
            y.say(0, 6, 0, 2, false);
            y.say(0, 6, 1, 2, false);
            mend(y, 2, 0, 1);
        }, "while (how < DREAMT && !hasBit(hows, how)) { how++; } return how;",
                "for (int other = how; other < DREAMT; other++) { how = hasBit(hows, other) ? other : how; } return "
                        + "hasBit(hows, how) ? how : DREAMT;");
    }

    private static void silence(Edges edges) {
        edges.of(PART, "SILENCE of a PERSON and a THING: the fewest others, all of whose SAYINGS left out he COULD not say it "
                + "(without NOT) by TOLD at HOUR 23 any more", () -> {
            EndingTown x = Check.of("stem a;stem b;thing 0 0 0;thing 1 0 23 never;person;person;person;person;person;person;");
            Check.is("nobody says it", x.silence(0, 0), 0);
            x.say(0, 1, 0, 0, false);
            Check.is("but he himself", x.silence(0, 0), 0);
            x.say(1, 1, 0, 4, false);
            Check.is("or in a dream", x.silence(0, 0), 0);
            x.unsay();
            x.unsay();
            x.say(1, 1, 0, 1, false);
            Check.is("or what doesn't hold", x.silence(0, 0), 0);
            x.say(0, 1, 0, 0, false);
            x.say(5, 23, 0, 0, false);
            Check.is("at the last HOUR", x.silence(0, 0), 32);
            x.say(5, 23, 1, 0, true);
            Check.is("NOT is no rumour", x.silence(0, 1), 0);
            x.say(4, 2, 0, 0, false);
            x.say(3, 2, 0, 0, false);
            x.say(2, 2, 0, 0, false);
            x.say(1, 2, 0, 0, false);
            Check.is("all others", x.silence(0, 0), 62);
            Check.is("all others of 5", x.silence(5, 0), 31);
            // what he himself says goes on, and others lean on it
            EndingTown y = Check.of("stem a;places 2;thing 0 0 0;person;person;person;at 1 0 1;at 1 1 0;at 2 0 1;at 2 1 0;");
            y.say(0, 5, 0, 0, false);
            y.say(1, 6, 0, 2, false);
            y.say(2, 6, 0, 2, false);
            Check.is("both who lean on him", y.silence(0, 0), 6);
            Check.is("the one whose eyes it hangs on", y.silence(1, 0), 1);
            Check.is("alone", Check.of("stem a;thing 0 0 0;person;").silence(0, 0), 0);
            // one is fewer than two, though the two are less as bits
            EndingTown z = Check.of("stem a;places 2;thing 0 1 0;person;person;person;person;at 2 0 1;at 0 1 1;at 1 1 1;"
                    + "at 0 2 0;at 1 2 0;");
            z.say(2, 1, 0, 0, false);
            z.say(0, 2, 0, 2, false);
            z.say(1, 2, 0, 2, false);
            Check.is("the one who saw it", z.silence(3, 0), 4);
        }, "for (int few = 0; few < many; few++) { int silent = 0;",
                "for (int few = 1; few < many; few++) { int silent = 0;",
                "int told = heardBy(person, HOURS - 1) & about[aboutRow(thing, false)];",
                        "int told = heardBy(person, HOURS - 2) & about[aboutRow(thing, false)];",
                "int told = heardBy(person, HOURS - 1) & about[aboutRow(thing, false)];",
                "int told = heardBy(person, HOURS - 1) & (about[aboutRow(thing, false)] | about[aboutRow(thing, true)]);",
                "return others;", "return others & 31;",
                "int others = ((1 << town.people) - 1) & ~(1 << person);", "int others = (1 << town.people) - 1;",
                "if (!hasBit(silent, ledger.person[i])) {", "if (!hasBit(silent | silent << 1, ledger.person[i])) {",
                "return (solid & told) != 0;", "return (held & told) != 0;",
                "rise(0, left);", "rise(1, left);",
                "if (Integer.bitCount(silent) == few && !isTold(told, silent)) {", "if (!isTold(told, silent)) {");
        edges.of(PART, "by TOLD at HOUR 23 any more; of like ones the least as bits.", () -> {
            String village = "stem a;places 3;thing 0 1 3;person;person;person;person;";
            EndingTown x = Check.of(village + "at 3 3 1;at 3 4 2;at 0 3 2;at 0 6 0;at 2 0 2;");
            x.say(3, 5, 0, 0, false);
            x.say(0, 7, 0, 2, false);
            Check.is("who told him, or who told that one", x.silence(1, 0), 1);
            EndingTown y = Check.of(village + "at 0 3 1;at 0 4 2;at 3 3 2;at 3 6 0;at 2 0 2;");
            y.say(0, 5, 0, 0, false);
            y.say(3, 7, 0, 2, false);
            Check.is("or the other way round", y.silence(1, 0), 1);
        }, "silent = (silent - others) & others;", "silent = (silent - 1) & others;",
                "if (Integer.bitCount(silent) == few && !isTold(told, silent)) {",
                        "if (Integer.bitCount(silent) == few && silent != 1 && !isTold(told, silent)) {");
    }

    private static void likely(Edges edges) {
        String village = "stem a;stem b;places 2;thing 0 0 0;thing 1 0 0;person;person;person;at 2 5 1;weigh 0 900 100;"
                + "weigh 1 999 0;weigh 2 0 999;";
        edges.of(PART, "LIKELY is a THING to a PERSON: 500,000 of a million at first", () -> {
            EndingTown x = Check.of(village);
            Check.is("nothing is said", x.likely(0, 0), 500000);
            x.say(0, 4, 0, 0, false);
            Check.is("but by himself", x.likely(0, 0), 500000);
            Check.is("of another THING", x.likely(1, 1), 500000);
        }, "int likely = MILLION / 2;", "int likely = MILLION / 2 + 1;", "int likely = MILLION / 2;", "int likely = 0;");
        edges.of(PART, "with each SAYING of it by another one, to him (who was there), in order", () -> {
            EndingTown x = Check.of(village);
            x.say(0, 5, 0, 0, false);
            Check.is("to who was there", x.likely(1, 0), 900000);
            Check.is("to who was elsewhere", x.likely(2, 0), 500000);
            Check.is("to himself", x.likely(0, 0), 500000);
            x.say(0, 4, 0, 0, false);
            Check.is("twice", x.likely(1, 0), 987804);
            Check.is("once", x.likely(2, 0), 900000);
            x.unsay();
            x.unsay();
            x.say(0, 9, 0, 1, false);
            x.say(0, 1, 0, 2, false);
            Check.is("in the order of SAYINGS, not of HOURS", x.likely(1, 0), 1000000);
            x.say(0, 1, 1, 2, false);
            Check.is("of it", x.likely(1, 0), 1000000);
            Check.is("of the other", x.likely(1, 1), 0);
        }, "if (ledger.thing[i] == thing && ledger.isHeardBy(i, person, town)) {", "if (ledger.isHeardBy(i, person, town)) {",
                "if (ledger.thing[i] == thing && ledger.isHeardBy(i, person, town)) {", "if (ledger.thing[i] == thing) {",
                "if (ledger.thing[i] == thing && ledger.isHeardBy(i, person, town)) {",
                "if (ledger.thing[i] == thing && town.placeAt(person, ledger.hour[i]) == town.placeAt(ledger.person[i], "
                        + "ledger.hour[i])) {",
                "int likely = MILLION / 2; for (int i = 0; i < ledger.size; i++) {",
                        "int likely = MILLION / 2; for (int i = ledger.size - 1; i >= 0; i--) {");
    }

    private static void weighed(Edges edges) {
        edges.of(PART, "x, being what is likely, or with NOT what is left of the million, becomes x by the first CHANCE of "
                + "its HOW, by a million, by x by the first and (a million less x) by the second CHANCE, together, cut down",
                () -> {
            EndingTown x = Check.of("stem a;thing 0 0 0;person;person;weigh 0 1 2;weigh 1 999 1;weigh 2 0 999;weigh 3 999 0;");
            x.say(0, 0, 0, 0, false);
            Check.is("a third", x.likely(1, 0), 333333);
            x.say(0, 0, 0, 0, true);
            // 666667 by 1 by a million, by 666667 by 1 and 333333 by 2
            Check.is("NOT of it", x.likely(1, 0), 1000000 - 500000);
            x.unsay();
            x.unsay();
            x.say(0, 0, 0, 0, true);
            Check.is("NOT of one half", x.likely(1, 0), 666667);
            x.unsay();
            int[] due = {999000, 999998, 999999, 999999};
            for (int i = 0; i < 4; i++) {
                x.say(0, 0, 0, 1, false);
                Check.is("surer and surer, " + i, x.likely(1, 0), due[i]);
            }
            x.say(0, 0, 0, 2, false);
            Check.is("it can't be", x.likely(1, 0), 0);
            x.say(0, 0, 0, 1, false);
            Check.is("and stays so", x.likely(1, 0), 0);
            x.say(0, 0, 0, 2, true);
            Check.is("NOT can't be, either", x.likely(1, 0), 0);
            x.unsay();
            x.unsay();
            x.unsay();
            x.say(0, 0, 0, 3, true);
            Check.is("NOT must be", x.likely(1, 0), 0);
            x.unsay();
            x.say(0, 0, 0, 3, false);
            Check.is("it must be", x.likely(1, 0), 1000000);
        }, "long x = not ? MILLION - likely : likely;", "long x = likely;",
                "return not ? MILLION - next : next;", "return next;",
                "int next = (int) (so * MILLION / both);", "int next = (int) ((so * MILLION + both - 1) / both);",
                "int next = (int) (so * MILLION / both);", "int next = (int) so * MILLION / (int) both;",
                "long both = so + (MILLION - x) * chances[2 * how + 1];", "long both = so + x * chances[2 * how + 1];");
        edges.of(PART, "(as it was, if that is 0)", () -> {
            EndingTown x = Check.of("stem a;thing 0 0 0;person;person;weigh 0 3 1;weigh 1 0 0;weigh 2 0 999;weigh 3 999 0;");
            x.say(0, 0, 0, 1, false);
            Check.is("as at first", x.likely(1, 0), 500000);
            x.say(0, 0, 0, 0, false);
            x.say(0, 0, 0, 1, false);
            Check.is("as it was", x.likely(1, 0), 750000);
            x.say(0, 0, 0, 1, true);
            Check.is("with NOT", x.likely(1, 0), 750000);
            x.say(0, 0, 0, 3, false);
            x.say(0, 0, 0, 2, false);
            Check.is("sure, against what can't be so", x.likely(1, 0), 1000000);
            x.say(0, 0, 0, 3, true);
            Check.is("sure, against NOT", x.likely(1, 0), 1000000);
            x.unsay();
            x.unsay();
            x.unsay();
            x.say(0, 0, 0, 2, false);
            x.say(0, 0, 0, 3, false);
            Check.is("nothing, against what must be", x.likely(1, 0), 0);
        }, "if (both == 0) { return likely;", "if (both == 0) { return 0;",
                "if (both == 0) { return likely;", "if (both == 0) { return MILLION / 2;",
                "if (both == 0) { return likely;", "if (both == 0) { return (int) x;",
                "if (both == 0) { return likely;", "if (so == 0) { return likely;");
    }
}
