/** What stands under 'Terms', sentence by sentence; the answers are worked out by hand. */
final class TermsEdges {
    private static final String SIX = "room1 0 0;room2 0 0;room3 0 0;room4 0 0;room5 0 0;room6 0 0;";
    private static final String[] KINDS = {"plain", "quick", "lazy", "bent"};
    private static final int[] LOW = {-2, -1, -5, -5};
    private static final int[] HIGH = {2, 1, 2, 4};

    private final Edges edges;

    TermsEdges(Edges edges) {
        this.edges = edges;
    }

    void all() {
        edges.in("Terms");
        answers();
        rooms();
        walls();
        tongues();
        tape();
        lines();
        faults();
        counts();
        taken();
        switching();
        warmth();
        byHours();
        sheets();
    }

    private void answers() {
        edges.says("Answers: BAD -1 (a number is not as told, there is no such ROOM, WALL, IMAGE, SHEET), STATE -2 (as told), "
            + "FULL -3, NONE -4 (there is none), the first that fits;");
        // BAD ahead of STATE
        edges.row("'room 5 0 0;room 5 0 0;' = 2", "strip 0 = -2", "strip 2 = -1", "mark 0 50 = -2", "mark 0 100 = -1",
            "mark 0 -1 = -1", "mark 2 50 = -1", "need 0 5 5 = -2", "need 0 0 5 = -1", "need 0 61 5 = -1", "need 0 5 100 = -1",
            "need 0 5 -1 = -1", "need 2 5 5 = -1", "kind 0 5 0 = -2", "kind 0 61 0 = -1", "kind 0 -1 0 = -1", "kind 0 5 2 = -1",
            "kind 0 5 -1 = -1", "kind 2 5 0 = -1", "kinds 0 = -2", "kinds 2 = -1", "back 1 = -2", "back 2 = -1");
        edges.row("drift 1 1 0 = -2", "drift 1 0 0 = -1", "drift 1 61 0 = -1", "drift 1 1 2 = -1", "drift 1 1 -1 = -1");
        // BAD ahead of FULL
        edges.row("feed 32 = _ *160", "feed 32 = -3", "feed 128 = -1", "feed -1 = -1");
        edges.row("hours 48 = 0 *20", "hours 39 = 0", "hours 1 = -3", "hours 49 = -1", "hours -1 = -1");
        edges.row("'room 5 0 0;' = 1", "see 0 0 5 = _ *6", "see 0 0 5 = -3", "see 21 0 5 = -1", "see -1 0 5 = -1",
            "see 0 1 5 = -1", "see 0 0 100 = -1", "see 0 0 -1 = -1");
        // BAD ahead of NONE
        edges.row("runs 1 3 = -4", "runs 61 3 = -1", "runs -1 3 = -1", "swap 1 0 = -4", "swap 61 0 = -1", "swap -1 0 = -1",
            "swap 1 2 = -1", "seal 1 0 = -4", "seal 61 0 = -1", "seal -1 0 = -1", "seal 1 2 = -1", "spare 1 0 0 = -4",
            "spare 61 0 0 = -1", "spare -1 0 0 = -1", "spare 1 100 0 = -1", "spare 1 -1 0 = -1", "spare 1 0 2 = -1");
        edges.row("'room 5 0 0;room 5 0 0;' = 2", "room 0 3 = -4", "room 0 8 = -1", "room 2 3 = -1", "cold 0 4 = -4",
            "cold 2 4 = -1", "cold 0 -1 = -1", "ask 0 0 = -4", "ask 0 2 = -1", "ask 1 0 = -1");
        // BAD ahead of NONE, STATE ahead of NONE: no mark makes it 99 warm
        edges.row("'room 5 0 0;room 5 0 0;plain 0 9;' = 3", "need 0 1 99 = -4", "need 0 61 99 = -1", "need 0 0 99 = -1",
            "need 1 1 99 = -2");
        // BAD ahead of what the machine finds
        edges.row("sheet 0 0 -1 = -14", "sheet 4 0 -1 = -1", "sheet -1 0 -1 = -1", "sheet 0 3 -1 = -1", "lay 0 -1 0 = -11",
            "lay 4 -1 0 = -1", "read 0 0 0 1 = 0", "read 0 3 0 1 = -1", "read 4 0 0 1 = -1", "read 0 0 0 21 = -1");

        edges.says("what is refused changes nothing (but THE TAPE, as told).");
        // more of it stands in RefusedTest
        edges.row("'room 5 4 3;room 6 5 4;plain 0 20;' = 3", "alter 0 0 100 = -1", "alter 0 1 10 = -1", "alter 0 2 10 = -1",
            "fit 1 4 5 = -1", "fit 1 0 100 = -1", "mark 0 100 = -1", "lag 0 10 = -1", "sky 0 100 = -1", "hours 49 = -1",
            "room 0 0 = 5", "room 0 1 = 4", "room 0 2 = 3", "room 1 3 = -4", "room 0 4 = 20", "wall 0 = 2", "outside 0 = 10",
            "rule 1 = 0");
        edges.row("'room 5 4 3;' = 1", "'room 5 4 x' = -19", "count 2 = 0", "rule 0 = 1", "feed 32 = 1");

        edges.says("Fractions are in lowest terms, the denominator above 0 (0 is 0 by 1).");
        // 5, 4, 8 of ten hours without a fuse that blows: 1 by 2, 3 by 5, 1 by 5
        edges.row("'room 10 0 5;plain 0 20;' = 2", "luck 5 0 1 15 0 = 1", "luck 5 0 1 15 1 = 2", "luck 4 0 1 15 0 = 3",
            "luck 4 0 1 15 1 = 5", "luck 8 0 1 15 0 = 1", "luck 8 0 1 15 1 = 5", "luck 3 0 1 15 0 = 7", "luck 3 0 1 15 1 = 10",
            "luck 0 0 8 10 0 = 1", "luck 0 0 8 10 1 = 1", "luck 3 0 8 99 0 = 0", "luck 3 0 8 99 1 = 1", "mean 5 2 0 = 1",
            "mean 5 2 1 = 1", "mean 4 1 0 = 3", "mean 4 1 1 = 5", "mean 10 8 0 = 0", "mean 10 8 1 = 1", "mean 3 0 0 = 0",
            "mean 3 0 1 = 1");
    }

    private void rooms() {
        edges.says("ROOMS 0 on (6 at most, by order, in a row),");
        edges.row("rule 0 = 0", "room 0 0 = -1", "'" + SIX + "' = 6", "rule 0 = 6", "room 0 0 = 1", "room 1 0 = 2",
            "room 2 0 = 3", "room 3 0 = 4", "room 4 0 = 5", "room 5 0 = 6", "room 6 0 = -1", "room -1 0 = -1");
        edges.row("'" + SIX + "room7 0 0;' = -70", "rule 0 = 0");
        edges.row("'room 50 0 0;room 0 0 0;room 0 0 0;' = 3", "hours 1 = 0", "room 0 0 = 40", "room 1 0 = 10", "room 2 0 = 0");

        edges.says("each so WARM (0 to 99),");
        edges.row("'room 0 0 0;room 99 0 0;' = 2", "room 0 0 = 0", "room 1 0 = 99", "alter 0 0 100 = -1", "alter 0 0 -1 = -1",
            "alter 0 0 99 = 0", "alter 0 0 0 = 99");
        edges.fault(1, "room ^100 0 0;");

        edges.says("with a LOSS (0 to 9),");
        edges.row("'room 0 0 0;room 0 9 0;' = 2", "room 0 1 = 0", "room 1 1 = 9", "alter 0 1 10 = -1", "alter 0 1 -1 = -1",
            "alter 0 1 9 = 0", "alter 0 1 0 = 9");
        edges.fault(3, "room 0 ^10 0;");

        edges.says("that GETS so much (0 to 9) when it is ON (not at first).");
        edges.row("'room 0 0 0;room 0 0 9;' = 2", "room 0 2 = 0", "room 1 2 = 9", "alter 0 2 10 = -1", "alter 0 2 -1 = -1",
            "alter 0 2 9 = 0", "alter 0 2 0 = 9");
        edges.fault(3, "room 0 0 ^10;");
        edges.row("'room 0 0 9;plain 0 20;' = 2", "room 0 7 = 0", "rule 5 = 0", "hours 1 = 1", "room 0 7 = 1", "room 0 0 = 9",
            "alter 0 0 50 = 9", "hours 1 = 0", "room 0 0 = 50");
        edges.row("'room 0 0 9;plain 0 20;' = 2", "hours 1 = 1", "rule 5 = 1", "'room 0 0 9;plain 0 20;' = 2", "rule 5 = 0");
    }

    private void walls() {
        edges.says("WALL w is between ROOMS w and w + 1 (it is there, if both are);");
        edges.row("wall 0 = -1", "'room 1 0 0;' = 1", "wall 0 = -1", "lag 0 1 = -1", "'room 1 0 0;room 1 0 0;' = 2", "wall 0 = 2",
            "wall 1 = -1", "wall -1 = -1", "lag 1 1 = -1");
        edges.row("'" + SIX + "' = 6", "wall 0..4 = 2", "wall 5 = -1");
        // through wall 1 alone: rooms 1 and 2 come closer
        edges.row("'room 9 0 0;room 20 0 0;room 10 0 0;room 9 0 0;wall 0 0;wall 1 5;wall 2 0;' = 7", "hours 1 = 0",
            "room 0 0 = 9", "room 1 0 = 15", "room 2 0 = 15", "room 3 0 = 9");

        edges.says("it LETS so much (0 to 9; 2 at first).");
        edges.row("'room 1 0 0;room 1 0 0;room 1 0 0;wall 0 9;' = 4", "wall 0 = 9", "wall 1 = 2", "lag 1 0 = 2", "lag 1 9 = 0",
            "lag 1 10 = -1", "lag 1 -1 = -1", "wall 1 = 9");
        edges.row("'room 1 0 0;room 1 0 0;wall 0 0;' = 3", "wall 0 = 0", "'room 1 0 0;room 1 0 0;' = 2", "wall 0 = 2");
        edges.fault(3, "wall 0 ^10;");

        edges.says("OUTSIDE of each hour 0 to 7 of a day: 0 to 99 (10 at first).");
        edges.row("outside 0..7 = 10", "outside 8 = -1", "outside -1 = -1", "'room 1 0 0;' = 1", "outside 0..7 = 10");
        edges.row("'out 0 99;' = 1", "outside 0 = 0", "outside 1 = 99", "sky 7 0 = 10", "sky 7 99 = 0", "sky 7 100 = -1",
            "sky 7 -1 = -1", "outside 7 = 99");
        edges.fault(1, "out ^100;");
    }

    private void counts() {
        edges.says("HOUR, FUEL (burnt), SWITCHINGS (0 at first).");
        edges.row("rule 1..3 = 0", "'room 0 0 0;plain 0 20;' = 2", "rule 1..3 = 0", "hours 3 = 3", "rule 1 = 3", "rule 2 = 3",
            "rule 3 = 1", "'room 0 0 0;' = 1", "rule 1..3 = 0");

        edges.says("It is that hour of the day which HOUR leaves by 8.");
        edges.row("'out 0 10 20 30 40 50 60 70;' = 1", "rule 6 = 0", "hours 7 = 0", "rule 6 = 70", "hours 1 = 0", "rule 1 = 8",
            "rule 6 = 0", "hours 48 = 0 *20", "rule 1 = 968", "rule 6 = 0", "hours 31 = 0", "rule 1 = 999", "rule 6 = 70");
        // 70 outside at hour 999, then 0 at hour 1000: 0 and 35, less 17
        edges.row("'room 0 5 0;out 0 10 20 30 40 50 60 70;' = 2", "hours 48 = 0 *20", "hours 39 = 0", "alter 0 0 0 = _",
            "ahead 0 1 0 = 35", "ahead 0 2 0 = 18");
    }

    private void tongues() {
        edges.says("A ROOM has a TONGUE, or none: of a KIND (0 plain, 1 quick, 2 lazy, 3 bent), with a MARK (0 to 99).");
        edges.row("'" + SIX + "plain0 0;quick1 99;lazy2 50;bent3 51;' = 10", "room 0 3 = 0", "room 1 3 = 1", "room 2 3 = 2",
            "room 3 3 = 3", "room 4 3 = -4", "room 0 4 = 0", "room 1 4 = 99", "room 2 4 = 50", "room 3 4 = 51", "room 4 4 = -4",
            "fit 4 4 5 = -1", "fit 4 -1 5 = -1", "fit 4 0 100 = -1", "fit 4 0 -1 = -1", "room 4 3 = -4");
        edges.fault(1, "room 1 1 1;plain 0 ^100;");

        edges.says("LOW by KIND: plain 2 less than MARK; quick 1 more than a plain one; lazy 3 less than a plain one; bent as a "
            + "lazy one.");
        for (int k = 0; k < 4; k++) {
            String tongue = ";" + KINDS[k] + " 0 ";
            edges.row("'room 50 0 0" + tongue + "50;' = 2", "room 0 5 = " + (60 + LOW[k]), "alter 0 0 " + (51 + LOW[k]) + " = 50",
                "hours 1 = 0", "alter 0 0 " + (50 + LOW[k]) + " = _", "hours 1 = 1");
            // a mark of 0 has a low below 0, which no room comes to; by the least mark that has 0 it does
            edges.row("'room 0 0 0" + tongue + "0;' = 2", "room 0 5 = " + (10 + LOW[k]), "hours 1 = 0",
                "mark 0 " + (-1 - LOW[k]) + " = 0", "hours 1 = 0", "mark 0 " + -LOW[k] + " = _", "room 0 5 = 10", "hours 1 = 1");
        }

        edges.says("HIGH by KIND: plain 2 more than MARK; quick 1 less than a plain one; lazy as a plain one; bent 2 more than a "
            + "lazy one.");
        for (int k = 0; k < 4; k++) {
            String tongue = ";" + KINDS[k] + " 0 ";
            edges.row("'room 9 0 0" + tongue + "50;' = 2", "room 0 6 = " + (50 + HIGH[k]), "hours 1 = 1",
                "alter 0 0 " + (49 + HIGH[k]) + " = 9", "hours 1 = 1", "alter 0 0 " + (50 + HIGH[k]) + " = _", "hours 1 = 0");
            // a mark of 99 has a high above 99, which no room comes to; by the greatest mark that has 99 it does
            edges.row("'room 9 0 0" + tongue + "99;' = 2", "room 0 6 = " + (99 + HIGH[k]), "hours 1 = 1", "alter 0 0 99 = 9",
                "hours 1 = 1", "mark 0 " + (100 - HIGH[k]) + " = 99", "hours 1 = 1", "mark 0 " + (99 - HIGH[k]) + " = _",
                "room 0 6 = 99", "hours 1 = 0");
        }
    }

    private void tape() {
        edges.says("THE TAPE has 160 bytes, places from 0.");
        edges.row("feed 32 = _ *159", "feed 32 = 160", "feed 32 = -3", "count 2 = 160");
        edges.taken(1, " ".repeat(156) + "out;");
        edges.fault(1, "^$");
        edges.fault(1, " ".repeat(159) + "^$");
        edges.fault(2, " ".repeat(156) + "room^");
        edges.fault(2, " ".repeat(159) + "^9");

        edges.says("TOKENS, each as long as may be, blanks (32) between: NAMES (a .. z), NUMBERS (1 or 2 figures), one ; .");
        // as long as may be
        edges.fault(2, "^rooms 1 2 3;");
        edges.fault(2, "^roomroom 1 2 3;");
        edges.fault(2, "^outout;");
        edges.fault(2, "^roo m 1 2 3;");
        edges.row("'out12 3;' = 1", "outside 0 = 12", "outside 1 = 3", "outside 2 = 10");
        edges.row("'out1 23;' = 1", "outside 0 = 1", "outside 1 = 23", "outside 2 = 10");
        edges.fault(1, "out^123;");
        edges.fault(1, "out ^" + "1".repeat(150) + ";");
        edges.fault(2, "^" + "z".repeat(160));
        // blanks are needed where a token could be longer, nowhere else, and there may be many
        edges.taken(3, "room1 2 3;room4 5 6;plain0 7;");
        edges.taken(2, "   room   1   2   3   ;   out   ;   ");
        edges.taken(0, " ".repeat(160));
        for (int c : new int[] {0, 9, 10, 13, 31, 33, 127}) edges.fault(1, "room 1^" + (char) c + "2 3;");
        // names: what stands beside a and z is no token
        edges.fault(2, "^a");
        edges.fault(2, "^z");
        edges.fault(1, "^`");
        edges.fault(1, "^{");
        edges.fault(1, "^A");
        edges.fault(1, "^Z");
        edges.fault(1, "out^`;");
        edges.fault(1, "out^{;");
        // numbers: what stands beside 0 and 9 is no token; one or two figures, also with a 0 ahead
        edges.fault(2, "^0");
        edges.fault(2, "^9");
        edges.fault(1, "^/");
        edges.fault(1, "^:");
        edges.row("'out 0 9 00 09 90 99;' = 1", "outside 0 = 0", "outside 1 = 9", "outside 2 = 0", "outside 3 = 9",
            "outside 4 = 90", "outside 5 = 99");
        edges.fault(1, "out ^000;");
        edges.fault(1, "out ^-1;");
        // one ; each
        edges.fault(2, "out;^;");
        edges.fault(1, "out;^<");
    }

    private void lines() {
        edges.says("text: { line }   line: room N N N ; | K N N ; | wall N N ; | out { N } ;   K: plain | quick | lazy | bent");
        edges.taken(0, "");
        edges.taken(1, "room 1 2 3;");
        for (String kind : KINDS) {
            edges.taken(2, "room 1 2 3;" + kind + " 0 1;");
            edges.fault(2, kind + "^;");
            edges.fault(2, kind + " 0^;");
            edges.fault(2, kind + " 0 1 ^2;");
            edges.fault(2, kind + " 0 1 ^out;");
        }
        edges.taken(3, "room 1 2 3;room 1 2 3;wall 0 1;");
        edges.taken(1, "out;");
        edges.taken(1, "out 1;");
        edges.taken(1, "out 1 2 3 4 5 6 7 8;");
        edges.fault(2, "room^;");
        edges.fault(2, "room 1^;");
        edges.fault(2, "room 1 2^;");
        edges.fault(2, "room 1 2 3 ^4;");
        edges.fault(2, "wall^;");
        edges.fault(2, "wall 0^;");
        edges.fault(2, "wall 0 1 ^2;");
        edges.fault(2, "out ^out;");
        edges.fault(2, "out 1 ^out;");
        // six rooms with tongues, five walls, the outside: all that there can be
        edges.row("'room1 1 1;room1 1 1;room1 1 1;room1 1 1;room1 1 1;room1 1 1;lazy0 1;lazy1 1;lazy2 1;lazy3 1;lazy4 1;"
            + "lazy5 1;wall0 1;wall1 1;wall2 1;wall3 1;wall4 1;out;' = 18", "count 5 = 5");

        edges.says("room: a ROOM more, without a TONGUE: WARM, LOSS, what it GETS.");
        edges.row("'room 5 4 3;room 99 9 9;room 0 0 0;' = 3", "rule 0 = 3", "room 0 0 = 5", "room 0 1 = 4", "room 0 2 = 3",
            "room 0..2 3 = -4", "room 1 0 = 99", "room 1 1 = 9", "room 1 2 = 9", "room 2 0 = 0", "room 2 1 = 0", "room 2 2 = 0");
        edges.row("'room 5 4 3;plain 0 5;' = 2", "'room 5 4 3;' = 1", "room 0 3 = -4", "strip 0 = -2");

        edges.says("K: a TONGUE of that KIND: its ROOM (0 to 5), MARK.");
        edges.row("'" + SIX + "bent 5 99;lazy 0 0;' = 8", "room 5 3 = 3", "room 5 4 = 99", "room 0 3 = 2", "room 0 4 = 0",
            "room 1..4 3 = -4");
        edges.fault(3, SIX + "bent ^6 1;");
        edges.row("'plain 0 7;room 1 1 1;' = 2", "room 0 3 = 0", "room 0 4 = 7");

        edges.says("wall: which one (0 to 4), what it LETS.");
        edges.row("'" + SIX + "wall 4 9;wall 0 0;' = 8", "wall 4 = 9", "wall 0 = 0", "wall 1..3 = 2");
        edges.fault(3, SIX + "wall ^5 1;");

        edges.says("out: OUTSIDE of hour 0, 1, and so on of the day (the others have 10).");
        edges.row("sky 7 33 = 10", "'out;' = 1", "outside 0..7 = 10");
        edges.row("sky 7 33 = 10", "'out 1 2 3;' = 1", "outside 0 = 1", "outside 1 = 2", "outside 2 = 3", "outside 3..7 = 10");
        edges.row("'out 1 2 3 4 5 6 7 8;' = 1", "outside 0 = 1", "outside 6 = 7", "outside 7 = 8");
        edges.row("sky 0 33 = 10", "'room 1 1 1;' = 1", "outside 0 = 10");
    }

    private void faults() {
        edges.says("FAULTS, the first met as it is read (a TOKEN is read when the one before has been taken):");
        // each of them ahead of a byte that is no token
        edges.fault(2, "^x $");
        edges.fault(2, "^5 $");
        edges.fault(2, "^; $");
        edges.fault(2, "room 1 ^x $");
        edges.fault(2, "room 1 2 3 ^4 $");
        edges.fault(3, "room 1 ^10 $");
        edges.fault(3, "plain ^6$");
        edges.fault(3, "wall ^5$");
        edges.fault(4, "out;^out$");
        edges.fault(4, "plain 0 5;quick ^0$");
        edges.fault(4, "wall 0 5;wall ^0$");
        edges.fault(5, SIX + "^room$");
        edges.fault(5, "out 1 2 3 4 5 6 7 8 ^9$");
        // and behind one
        edges.fault(1, "room ^$ x 10");
        edges.fault(1, "out;^$out;");
        // a 1st one ahead of what there is not
        edges.fault(1, "plain 5 1;^$");
        edges.fault(2, "plain 5 1;^x");
        edges.fault(2, "plain 5 1^");
        edges.fault(3, "plain 5 1;wall ^5 1;");
        edges.fault(4, "plain 5 1;plain ^5 1;");
        edges.fault(5, "wall 0 1;out 1 2 3 4 5 6 7 8 ^9;");

        edges.says("1 no TOKEN, a NUMBER that is too long (its first byte).");
        edges.fault(1, "^$");
        edges.fault(1, "  ^$");
        edges.fault(1, "room 1 2 3^.");
        edges.fault(1, "room^,1 2 3;");
        edges.fault(1, "out;^\0");
        edges.fault(1, "out;^\177");
        edges.fault(1, "^123");
        edges.fault(1, "room ^123 2 3;");
        edges.fault(1, "room 1 ^002 3;");
        edges.fault(1, "room 1 2 3 ^123");
        edges.fault(1, "plain ^000 1;");
        edges.fault(1, "out 1 2 3 4 5 6 7 ^888;");

        edges.says("2 a TOKEN that can not stand there (a NAME that begins no line; or the end: the length).");
        edges.fault(2, "^rooms 1 2 3;");
        edges.fault(2, "^roo 1 2 3;");
        edges.fault(2, "^plai 0 1;");
        edges.fault(2, "^plainx 0 1;");
        edges.fault(2, "^quic 0 1;");
        edges.fault(2, "^laz 0 1;");
        edges.fault(2, "^ben 0 1;");
        edges.fault(2, "^wal 0 1;");
        edges.fault(2, "^ou;");
        edges.fault(2, "^outs;");
        for (String word : new String[] {"room", "wall", "out", "plain", "quick", "lazy", "bent"}) {
            for (int i = 0; i < word.length(); i++) edges.fault(2, "^" + word.substring(0, i) + "x" + word.substring(i + 1) + " 0 1;");
        }
        edges.fault(2, "out;^x");
        edges.fault(2, "^7");
        edges.fault(2, "^;");
        edges.fault(2, "room^");
        edges.fault(2, "room  ^");
        edges.fault(2, "room 1^");
        edges.fault(2, "room 1 2^");
        edges.fault(2, "room 1 2 3^");
        edges.fault(2, "room 1 2 3  ^");
        edges.fault(2, "plain^");
        edges.fault(2, "plain 0^");
        edges.fault(2, "plain 0 1^");
        edges.fault(2, "wall^");
        edges.fault(2, "wall 0^");
        edges.fault(2, "wall 0 1^");
        edges.fault(2, "out^");
        edges.fault(2, "out 1^");
        edges.fault(2, "out 1 2 3 4 5 6 7 8^");
        edges.fault(2, "out 1 2 3 4 5 6 7 8  ^");
        edges.fault(2, "room 1 2 3 ^room 1 2 3;");
        edges.fault(2, " ".repeat(141) + "out 1 2 3 4 5 6 7 8^");
        // the end is where the tape ends, though a longer one was there: 899 is gone, 8 is left
        edges.row("'out 1 2 3 4 5 6 7 899;' = -28", "fault = 1", "'out 1 2 3 4 5 6 7 8' = -29", "fault = 2");
        edges.row("'out 1 2;' = 1", "'out 1' = -15", "fault = 2");

        edges.says("3 a NUMBER out of its bounds.");
        edges.fault(3, "room 99 ^10 9;");
        edges.fault(3, "room 99 ^99 9;");
        edges.fault(3, "room 99 9 ^10;");
        edges.fault(3, "room 99 9 ^99;");
        for (String kind : KINDS) {
            edges.fault(3, kind + " ^6 99;");
            edges.fault(3, kind + " ^99 99;");
        }
        edges.fault(3, "wall ^5 9;");
        edges.fault(3, "wall ^99 9;");
        edges.fault(3, "wall 4 ^10;");
        edges.fault(3, "wall 4 ^99;");
        edges.taken(9, SIX + "bent 5 99;wall 4 9;out 99 0;");

        twiceOrTooMany();
    }

    private void twiceOrTooMany() {
        edges.says("4 out for the second time (its NAME); a ROOM that has a TONGUE already, a WALL that is told already (it).");
        edges.fault(4, "out;^out;");
        edges.fault(4, "out 1 2;room 1 2 3; ^out 3;");
        edges.fault(4, "plain 0 5;plain ^0 5;");
        edges.fault(4, "plain 5 5;bent ^5 6;");
        edges.fault(4, "room 1 2 3;lazy 0 5;quick  ^00 6;");
        edges.fault(4, "wall 0 5;wall ^0 5;");
        edges.fault(4, "wall 4 2;wall ^4 3;");
        edges.fault(4, "room 1 1 1;room 1 1 1;wall 0 2;wall ^0 2;");
        edges.taken(12, "room1 0 0;room1 0 0;room1 0 0;plain 0 1;plain 1 1;plain 2 1;wall 0 1;wall 1 1;out;room1 0 0;plain 3 1;wall 2 1;");
        // a text that is taken is forgotten by the next one
        edges.row("'out;room 1 1 1;room 1 1 1;plain 0 1;wall 0 1;' = 5", "'out;room 1 1 1;room 1 1 1;plain 0 1;wall 0 1;' = 5");
        edges.row("'out;plain 0 1;wall 0 1;' = -33", "'out;room 1 1 1;room 1 1 1;plain 0 1;wall 0 1;' = 5");

        edges.says("5 the 7th room (its NAME); a 9th OUTSIDE (its NUMBER, whether it is one or not).");
        edges.taken(6, SIX);
        edges.fault(5, SIX + "^room1 0 0;");
        edges.fault(5, SIX + "out; ^room");
        edges.taken(1, "out 1 2 3 4 5 6 7 8;");
        edges.fault(5, "out 1 2 3 4 5 6 7 8 ^9;");
        edges.fault(5, "out 1 2 3 4 5 6 7 8  ^99");
        edges.fault(5, "out 1 2 3 4 5 6 7 8 ^123;");
        edges.fault(5, "out 1 2 3 4 5 6 7 8 ^9 10;");
        // a name there: our reading, see NOTES.md
        edges.fault(5, "out 1 2 3 4 5 6 7 8 ^room");
        edges.fault(5, "out 1 2 3 4 5 6 7 8^x;");
        // what is no token, and the end, are no 9th one
        edges.fault(1, "out 1 2 3 4 5 6 7 8^$;");
        edges.fault(1, "out 1 2 3 4 5 6 7 8^\0");
        edges.fault(2, "out 1 2 3 4 5 6 7 8^");

        edges.says("Behind all (the length): 6 a ROOM, a WALL that there is not.");
        edges.fault(6, "plain 0 1;^");
        edges.fault(6, "plain 0 1;  ^");
        edges.fault(6, "room 1 1 1;quick 1 1;^");
        edges.fault(6, "room 1 1 1;bent 5 1;^");
        edges.fault(6, "wall 0 1;^");
        edges.fault(6, "room 1 1 1;wall 0 1;^");
        edges.fault(6, "room 1 1 1;room 1 1 1;wall 1 1;^");
        edges.fault(6, "room1 0 0;room2 0 0;room3 0 0;room4 0 0;room5 0 0;wall 4 1;^");
        edges.fault(6, "room1 0 0;room2 0 0;room3 0 0;room4 0 0;room5 0 0;lazy 5 1;^");
        edges.taken(2, "plain 0 1;room 1 1 1;");
        edges.taken(3, "wall 0 1;room 1 1 1;room 1 1 1;");
        edges.taken(8, "wall 4 1;lazy 5 1;" + SIX);
    }

    private void taken() {
        edges.says("A text that is taken tells all, in place of what there was; nothing is SEEN; IMAGES are gone.");
        String[] had = {"'room 5 4 3;room 6 5 4;room 7 6 5;plain 0 20;wall 0 9;out 1 2 3;' = 6", "hours 3 = _", "see 0 0 1 = 1",
            "keep 0..1 = 0"};
        edges.row(with(had, "'room 8 7 6;room 9 0 0;' = 2", "rule 0 = 2", "rule 1..3 = 0", "rule 5 = 0", "room 0 0 = 8", "room 0 1 = 7",
            "room 0 2 = 6", "room 0..1 3 = -4", "room 2 0 = -1", "wall 0 = 2", "outside 0..7 = 10", "count 0..1 = 0",
            "back 0..1 = -2", "keep 0..1 = 0"));
        edges.row(with(had, "'' = 0", "rule 0..5 = 0", "outside 0..7 = 10", "count 0..1 = 0", "back 0..1 = -2"));
        // the sheets are no part of what is told
        edges.row("sheet 0 1 4 = 1", "lay 0 1 7 = 1", "'room 1 1 1;plain 0 5;' = 2", "count 3 = 4", "read 0 1 0 1 = 1", "room 0 4 = 7");
        // one that is not taken tells nothing: all stays
        edges.row(with(had, "'room 8 7 6;x' = -21", "rule 0 = 3", "rule 1 = 3", "count 0 = 1", "count 1 = 2", "back 0 = 3"));
    }

    private static String[] with(String[] ahead, String... steps) {
        String[] all = java.util.Arrays.copyOf(ahead, ahead.length + steps.length);
        System.arraycopy(steps, 0, all, ahead.length, steps.length);
        return all;
    }

    private void switching() {
        edges.says("AN HOUR, in this order.");
        // tongues switch ahead of the warmth that goes: 18 makes it on, though it is 90 then
        edges.row("'room 99 0 0;room 18 0 0;plain 1 20;wall 0 9;' = 4", "hours 1 = 1", "room 1 7 = 1", "room 1 0 = 90",
            "hours 1 = 0", "room 1 7 = 0");
        // 19 stays not on in the hour in which it becomes 18
        edges.row("'room 19 2 0;plain 0 20;' = 2", "hours 1 = 0", "room 0 0 = 18", "hours 1 = 1");

        edges.says("Each ROOM that has a TONGUE, by order: is it LOW or less WARM, it is ON; is it HIGH or more, it is not; "
            + "else it stays as it was:");
        edges.row("'room 19 0 0;plain 0 20;' = 2", "hours 1 = 0", "alter 0 0 21 = 19", "hours 1 = 0", "alter 0 0 18 = 21",
            "hours 1 = 1", "alter 0 0 17 = 18", "hours 1 = 1", "alter 0 0 19 = 17", "hours 1 = 1", "alter 0 0 21 = 19",
            "hours 1 = 1", "alter 0 0 22 = 21", "hours 1 = 0", "alter 0 0 23 = 22", "hours 1 = 0", "alter 0 0 21 = 23",
            "hours 1 = 0");
        edges.row("'room 17 0 0;plain 0 20;' = 2", "hours 1 = 1", "alter 0 0 23 = 17", "hours 1 = 0");
        edges.row("'room 0 0 9;' = 1", "hours 9 = 0", "room 0 0 = 0", "rule 3 = 0");
        edges.row("'" + SIX + "plain5 20;plain0 20;' = 8", "hours 1 = 2", "rule 5 = 33");

        edges.says("SWITCHINGS are 1 more (9999 at most), if that is changed.");
        edges.row("'room 18 0 0;room 18 0 0;plain 0 20;plain 1 20;' = 4", "hours 1 = 2", "rule 3 = 2", "hours 1 = 2", "rule 3 = 2",
            "alter 0 0 22 = 18", "lag 0 0 = 2", "hours 1 = 1", "rule 3 = 3", "hours 1 = 1", "rule 3 = 3");
        edges.due(Counters.behind(9998, "switchings", 1) == 9999, "9998 and one more");
        edges.due(Counters.behind(9999, "switchings", 1) == 9999, "9999 and one more");
    }

    private void warmth() {
        edges.says("Then all at once, by how WARM all are ahead of it:");
        edges.row("'room 50 0 0;room 0 0 0;room 0 0 0;' = 3", "hours 1 = 0", "room 0 0 = 40", "room 1 0 = 10", "room 2 0 = 0");
        edges.row("'room 0 0 0;room 0 0 0;room 50 0 0;' = 3", "hours 1 = 0", "room 0 0 = 0", "room 1 0 = 10", "room 2 0 = 40");
        // 10 through the wall and 10 out of it, both by 30; 5 out of it and 9 got, both by 20
        edges.row("'room 30 5 0;room 10 0 0;wall 0 5;' = 3", "hours 1 = 0", "room 0 0 = 10", "room 1 0 = 20");
        edges.row("'room 20 5 9;plain 0 30;' = 2", "hours 1 = 1", "room 0 0 = 24");

        edges.says("through each WALL goes, from its first ROOM to its second one, what it LETS times by how much the first one is "
            + "WARMER, by 10 (towards 0; below nothing: the other way);");
        goes("room 19 0 0;room 10 0 0;wall 0 1;", 19, 10);
        goes("room 20 0 0;room 10 0 0;wall 0 1;", 19, 11);
        goes("room 29 0 0;room 10 0 0;wall 0 1;", 28, 11);
        goes("room 10 0 0;room 19 0 0;wall 0 1;", 10, 19);
        goes("room 10 0 0;room 20 0 0;wall 0 1;", 11, 19);
        goes("room 10 0 0;room 29 0 0;wall 0 1;", 11, 28);
        goes("room 99 0 0;room 0 0 0;wall 0 9;", 10, 89);
        goes("room 0 0 0;room 99 0 0;wall 0 9;", 89, 10);
        goes("room 99 0 0;room 0 0 0;wall 0 0;", 99, 0);
        goes("room 50 0 0;room 50 0 0;wall 0 9;", 50, 50);

        edges.says("out of each ROOM goes its LOSS times by how much it is WARMER than OUTSIDE, by 10 (towards 0; below nothing: "
            + "into it);");
        goes("room 19 1 0;room 20 1 0;wall 0 0;", 19, 19);
        goes("room 29 1 0;room 30 1 0;wall 0 0;", 28, 28);
        goes("room 1 1 0;room 0 1 0;wall 0 0;", 1, 1);
        goes("room 10 9 0;room 99 0 0;wall 0 0;", 10, 99);
        goes("room 99 9 0;room 0 9 0;wall 0 0;out 0;", 10, 0);
        goes("room 99 9 0;room 0 9 0;wall 0 0;out 99;", 99, 89);
        // each towards 0 by itself: 5 tenths through the wall and 5 tenths out of it are nothing
        goes("room 11 5 0;room 10 5 0;wall 0 5;", 11, 10);
        // by the outside of that hour
        edges.row("'room 10 9 0;out 0 99;' = 2", "hours 1 = 0", "room 0 0 = 1", "hours 1 = 0", "room 0 0 = 89");

        edges.says("a ROOM that is ON GETS as told, FUEL is 1 more (9999 at most).");
        edges.row("'room 0 0 9;room 0 0 0;room 0 0 5;plain 0 50;plain 1 50;wall 0 0;wall 1 0;' = 7", "hours 1 = 2", "rule 2 = 2",
            "room 0 0 = 9", "room 1 0 = 0", "room 2 0 = 0", "hours 1 = 2", "rule 2 = 4", "room 0 0 = 18");
        edges.due(Counters.behind(9998, "fuel", 1) == 9999, "9998 and one more");
        edges.due(Counters.behind(9999, "fuel", 2) == 9999, "9999 and two more");
        edges.due(Counters.burntBehind(9998, 3) == 1, "by how much it is more, 9999 being the most");

        edges.says("It is 0 to 99 WARM in the end.");
        for (int gets = 1; gets <= 9; gets++) {
            edges.row("'room 97 0 " + gets + ";plain 0 99;' = 2", "hours 1 = 1", "room 0 0 = " + Math.min(99, 97 + gets));
        }
        edges.row("'room 0 0 0;room 10 0 0;room 0 0 0;wall 0 5;wall 1 5;' = 5", "hours 1 = 0", "room 1 0 = 0", "room 0 0 = 5");
        edges.row("'room 0 0 0;room 10 0 0;room 0 0 0;wall 0 9;wall 1 9;' = 5", "hours 1 = 0", "room 1 0 = 0", "room 0 0 = 9",
            "room 2 0 = 9");
        // in the end alone: 97, 9 got and 9 lost are 97; 10, 9 and 9 lost and 9 got are 1
        edges.row("'room 97 1 9;plain 0 99;out 0;' = 3", "hours 1 = 1", "room 0 0 = 97");
        edges.row("'room 0 0 0;room 10 0 9;room 0 0 0;plain 1 20;wall 0 9;wall 1 9;' = 6", "hours 1 = 1", "room 1 0 = 1");

        edges.says("HOUR is 1 more.");
        edges.row("rule 1 = 0", "hours 1 = 0", "rule 1 = 1", "'room 1 1 1;' = 1", "rule 1 = 0", "hours 1 = 0", "rule 1 = 1");
    }

    /** How warm two rooms are behind an hour in which nothing is burnt. */
    private void goes(String text, int first, int second) {
        edges.row("'" + text + "' = " + (text.split(";").length), "hours 1 = 0", "room 0 0 = " + first, "room 1 0 = " + second);
    }

    private void byHours() {
        edges.says("BY HOURS: as it would be from now on.");
        // 1 more in each hour: it is asked for and does not come
        edges.row("'room 0 0 1;plain 0 99;' = 2", "runs 60 0 = 60", "ahead 0 60 0 = 60", "cold 0 0 = 0", "again = -4",
            "rule 1..5 = 0", "hours 1 = 1", "ahead 0 60 0 = 61", "runs 60 0 = 60", "rule 1..3 = 1");
        // hours that are only asked for go beyond 999
        edges.row("'room 0 0 0;plain 0 99;' = 2", "hours 48 = 48 *20", "hours 39 = 39", "hours 1 = -3", "runs 60 0 = 60",
            "again = 8", "rule 1 = 999");

        edges.says("BURNT: by how much FUEL is more.");
        edges.row("'room 0 0 0;plain 0 99;' = 2", "hours 7 = 7", "rule 2 = 7", "hours 2 = 2", "rule 2 = 9", "runs 3 0 = 3",
            "kind 0 4 1 = 4", "mean 0 5 0 = 5", "drift 1 6 0 = 6");

        edges.says("SEEN (6): behind n HOURS (0 to 20) from now on a ROOM is v WARM.");
        edges.row("'room 0 0 1;plain 0 99;' = 2", "see 0 0 0 = 1", "see 20 0 20 = 2", "see 1 0 1 = 3", "see 19 0 19 = 4",
            "see 2 0 2 = 5", "see 10 0 10 = 6", "see 3 0 3 = -3", "count 0 = 6", "see 21 0 21 = -1", "kinds 0 = 15");
        edges.row("'room 0 0 1;plain 0 99;' = 2", "see 20 0 19 = 1", "kinds 0 = 0", "forget 0 = 1", "see 0 0 1 = 1", "kinds 0 = 0");
        // from the now of the call that asks on: our reading, see NOTES.md
        edges.row("'room 0 0 1;plain 0 99;' = 2", "see 1 0 2 = 1", "kinds 0 = 0", "hours 1 = 1", "kinds 0 = 15");
    }

    private void sheets() {
        edges.says("SHEETS 0 to 3 are rows of BYTES (lane 0), SHORTS (1), INTS (2) with 0 to 40 CELLS, or nothing (at first).");
        edges.row("lay 0..3 0 0 = -11", "lay 4 0 0 = -1", "lay -1 0 0 = -1", "count 3 = -4", "sheet 0..3 0 0 = 1", "lay 0..3 0 0 = -12",
            "sheet 0..3 1 40 = 1", "lay 0..3 39 0 = 1", "lay 0..3 40 0 = -12", "sheet 0..3 2 41 = -1", "sheet 4 0 1 = -1",
            "sheet -1 0 1 = -1", "sheet 0 3 1 = -1", "sheet 0 -1 1 = -1", "count 3 = 40");
        // 99 is 99 in each; 355 in a byte alone, 65635 in a byte and a short, no other; the row knows its lane
        edges.row("'room 1 1 1;plain 0 5;' = 2", "sheet 0 0 2 = 1", "lay 0 1 355 = 1", "read 0 0 0 1 = 1", "room 0 4 = 99",
            "lay 0 1 65635 = 1", "read 0 0 0 1 = 1", "sheet 1 1 2 = 1", "lay 1 1 355 = 1", "read 1 1 0 1 = -20",
            "lay 1 1 65634 = 1", "read 1 1 0 1 = 1", "room 0 4 = 98", "sheet 2 2 2 = 1", "lay 2 1 65635 = 1", "read 2 2 0 1 = -20",
            "lay 2 1 355 = 1", "read 2 2 0 1 = -20", "lay 2 1 97 = 1", "read 2 2 0 1 = 1", "room 0 4 = 97");

        edges.says("A FAULT is what the machine finds: 1 NULL (nothing), 2 INDEX, 3 CAST (another lane), 4 SIZE (below 0).");
        edges.row("lay 0 0 0 = -11", "read 0 0..2 0 1 = 0", "torn = 1", "sheet 0 0 2 = 1", "lay 0 2 0 = -12", "lay 0 -1 0 = -12",
            "read 0 0 2 1 = 0", "torn = 2", "read 0 1 0 1 = 0", "torn = 3", "read 0 2 0 1 = 0", "torn = 3", "sheet 0 0 -1 = -14");
        // nothing is of no lane and has no cells: NULL; another lane is found ahead of the index
        edges.row("read 1 2 99 1 = 0", "torn = 1", "lay 1 99 0 = -11", "sheet 1 1 0 = 1", "read 1 2 99 1 = 0", "torn = 3",
            "read 1 1 99 1 = 0", "torn = 2", "sheet 1 1 40 = 1", "read 1 0 0 1 = 0", "torn = 3");
    }
}
