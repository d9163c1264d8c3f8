/** What stands under 'Promise 1' to 'Promise 40', sentence by sentence; the answers are worked out by hand, but for one marked "searched". */
final class PromiseEdges {
    private static final String MIN = "-2147483648";
    private static final String MAX = "2147483647";
    /** Six rooms without loss that nothing goes between. */
    private static final String APART = "wall0 0;wall1 0;wall2 0;wall3 0;wall4 0;";
    /** A room that becomes 1 warmer in each hour, all of which burn. */
    private static final String RISES = "'room 0 0 1;plain 0 99;' = 2";
    /** A room that is cold enough to burn in each hour and does not become warmer. */
    private static final String BURNS = "'room 0 0 0;plain 0 99;' = 2";
    /** A room that is 24 20 22 24 20 22 24 and so on warm; it burns in two of three hours, not in the first. */
    private static final String SWINGS = "'room 24 3 5;plain 0 22;' = 2";

    private final Edges edges;

    PromiseEdges(Edges edges) {
        this.edges = edges;
    }

    void all() {
        tape();
        looking();
        changing();
        hours();
        coldAndAgain();
        needAndKind();
        swap();
        sealAndSpare();
        fuse();
        feeling();
        asking();
        drift();
        images();
        sheets();
        reading();
        counting();
    }

    private void tape() {
        edges.in("Promise 1");
        edges.says("No ROOMS; SHEETS have nothing.");
        edges.row("rule 0 = 0", "room 0 0..7 = -1", "rule 4..5 = 0", "lay 0..3 0 0 = -11", "count 3 = -4", "read 0..3 0 0 1 = 0", "torn = 1");
        edges.row("fault = 0", "torn = 0", "count 0..2 = 0", "count 4..5 = 0", "wall 0 = -1", "back 0..1 = -2", "text = 0");

        edges.in("Promise 2");
        edges.says("A byte (0 to 127) comes behind THE TAPE: how many it has.");
        edges.row("feed 0 = 1", "feed 127 = 2", "feed 64 = 3", "count 2 = 3");
        edges.row("feed 111 = 1", "feed 117 = 2", "feed 116 = 3", "feed 59 = 4", "text = 1", "feed 32 = 1");
        edges.says("BAD;");
        edges.row("feed -1 = -1", "feed 128 = -1", "feed 255 = -1", "feed 256 = -1", "feed " + MIN + " = -1", "feed " + MAX + " = -1",
            "count 2 = 0", "feed 5 = 1");
        edges.says("FULL: more than 160.");
        edges.row("feed 32 = _ *159", "feed 32 = 160", "feed 32 = -3 *3", "count 2 = 160", "end 159 = 160", "feed 32 = 160",
            "feed 32 = -3", "text = 0", "feed 32 = 1");
        // the 161st byte is not on it
        edges.row("feed 32 = _ *160", "feed 36 = -3", "text = 0");

        edges.in("Promise 3");
        edges.says("THE TAPE keeps its first n bytes: how many it had.");
        edges.row("end 0 = 0", "feed 59 = 1", "end 1 = 1", "count 2 = 1", "feed 36 = 2", "end 0 = 2", "count 2 = 0", "end 0 = 0");
        edges.row("feed 111 = 1", "feed 117 = 2", "feed 116 = 3", "feed 59 = 4", "feed 36 = 5", "end 4 = 5", "text = 1");
        edges.row("feed 32 = _ *160", "end 160 = 160", "count 2 = 160", "end 0 = 160", "feed 32 = 1");
        // what is not kept is not read any more: 'out 12' becomes 'out 1' and a ;
        edges.row("feed 111 = 1", "feed 117 = 2", "feed 116 = 3", "feed 32 = 4", "feed 49 = 5", "feed 50 = 6", "end 5 = 6", "feed 59 = 6",
            "text = 1", "outside 0 = 1");
        edges.row("feed 111 = 1", "feed 117 = 2", "feed 116 = 3", "feed 59 = 4", "end 3 = 4", "text = -13", "fault = 2");
        edges.says("BAD.");
        edges.row("end -1 = -1", "end 1 = -1", "feed 32 = 1", "feed 32 = 2", "end 3 = -1", "end -1 = -1", "end " + MIN + " = -1",
            "end " + MAX + " = -1", "count 2 = 2");

        edges.in("Promise 4");
        edges.says("THE TAPE (empty then) tells all: how many lines;");
        edges.row("text = 0", "'out;' = 1", "count 2 = 0", "text = 0", "'room 1 2 3;out;plain 0 5;' = 3", "count 2 = 0", "rule 0 = 1",
            "text = 0", "rule 0 = 0");
        edges.row("'room1 1 1;room1 1 1;room1 1 1;room1 1 1;room1 1 1;room1 1 1;lazy0 1;lazy1 1;lazy2 1;lazy3 1;lazy4 1;"
            + "lazy5 1;wall0 1;wall1 1;wall2 1;wall3 1;wall4 1;out;        ' = 18", "rule 0 = 6");
        edges.says("-10 less the place of its FAULT: that which was told stays.");
        edges.row("'room 7 2 3;' = 1", "'$' = -10", "count 2 = 0", "rule 0 = 1", "room 0 0 = 7", "'room 8 2 3;plain 0 $' = -29",
            "rule 0 = 1", "room 0 0 = 7", "room 0 3 = -4", "'room 8 2 3;wall 0 1;' = -30", "room 0 0 = 7");
        edges.row("'room 7 2 3;' = 1", "'" + " ".repeat(159) + "$' = -169", "'" + " ".repeat(157) + "out' = -170", "room 0 0 = 7");

        edges.in("Promise 5");
        edges.says("The FAULT of the latest text(); 0.");
        edges.row("fault = 0 *2", "'$' = -10", "fault = 1 *2", "feed 36 = 1", "end 0 = 1", "rule 9 = -1", "fault = 1", "'x' = -10",
            "fault = 2", "'room 1 10 1;' = -17", "fault = 3", "'out;out;' = -14", "fault = 4", "'out1 2 3 4 5 6 7 8 9;' = -29",
            "fault = 5", "'plain 0 1;' = -20", "fault = 6", "text = 0", "fault = 0");
        edges.row("'$' = -10", "fault = 1", "'room 1 1 1;' = 1", "fault = 0");
    }

    private void looking() {
        edges.in("Promise 6");
        edges.says("0 ROOMS, 1 HOUR, 2 FUEL, 3 SWITCHINGS, 4 how WARM all are, summed, 5 which are ON (bits), 6 OUTSIDE of this HOUR.");
        edges.row("rule 0..5 = 0", "rule 6 = 10");
        // 3 hours of six that burn; then the last alone goes on
        edges.row("'room99 0 0;room99 0 0;room99 0 0;room99 0 0;room99 0 0;room99 0 0;out 1 2 3 44;' = 7", "rule 4 = 594",
            "fit 0..5 0 99 = 9", "alter 0..5 0 0 = 99", "hours 3 = 18", "rule 0 = 6", "rule 1 = 3", "rule 2 = 18", "rule 3 = 6",
            "rule 4 = 0", "rule 5 = 63", "rule 6 = 44", "strip 0..4 = 0", "rule 5 = 32", "rule 3 = 6");
        edges.says("BAD.");
        edges.row("rule -1 = -1", "rule 7 = -1", "rule " + MIN + " = -1", "rule " + MAX + " = -1");

        edges.in("Promise 7");
        edges.says("Of a ROOM: 0 how WARM it is, 1 LOSS, 2 what it GETS, 3 KIND of its TONGUE, 4 MARK, 5 10 more than LOW, 6 HIGH "
            + "(3 to 6 NONE: it has none), 7 whether it is ON (1, 0).");
        edges.row("'room 31 4 5;room 6 7 8;quick 0 33;' = 3", "room 0 0 = 31", "room 0 1 = 4", "room 0 2 = 5", "room 0 3 = 1",
            "room 0 4 = 33", "room 0 5 = 42", "room 0 6 = 34", "room 0 7 = 0", "room 1 0 = 6", "room 1 1 = 7", "room 1 2 = 8",
            "room 1 3..6 = -4", "room 1 7 = 0", "hours 1 = 1", "room 0 7 = 1", "room 1 7 = 0", "mark 0 0 = 33", "room 0 5 = 9",
            "fit 0 3 0 = 1", "room 0 5 = 5", "room 0 6 = 4", "fit 0 3 99 = 3", "room 0 5 = 104", "room 0 6 = 103");
        edges.says("BAD.");
        edges.row("room 0 0 = -1", "'room 1 2 3;' = 1", "room 0 -1 = -1", "room 0 8 = -1", "room 1 0 = -1", "room -1 0 = -1",
            "room " + MIN + " 0 = -1", "room " + MAX + " 0 = -1", "room 0 " + MIN + " = -1", "room 0 " + MAX + " = -1");

        edges.in("Promise 8");
        edges.says("What a WALL LETS.");
        edges.row("'room1 0 0;room1 0 0;room1 0 0;room1 0 0;room1 0 0;room1 0 0;wall0 0;wall1 9;wall4 7;' = 9", "wall 0 = 0",
            "wall 1 = 9", "wall 2..3 = 2", "wall 4 = 7");
        edges.says("BAD.");
        edges.row("wall 0 = -1", "'room1 0 0;' = 1", "wall 0 = -1", "'room1 0 0;room1 0 0;' = 2", "wall 0 = 2", "wall 1 = -1",
            "wall -1 = -1", "wall 5 = -1", "wall " + MIN + " = -1", "wall " + MAX + " = -1");

        edges.in("Promise 9");
        edges.says("OUTSIDE of an hour of the day.");
        edges.row("'out 0 1 2 3 4 5 6 99;' = 1", "outside 0 = 0", "outside 1 = 1", "outside 6 = 6", "outside 7 = 99", "hours 3 = 0",
            "outside 0 = 0");
        edges.says("BAD.");
        edges.row("outside -1 = -1", "outside 8 = -1", "outside " + MIN + " = -1", "outside " + MAX + " = -1");
    }

    private void changing() {
        edges.in("Promise 10");
        edges.says("How WARM, LOSS, what it GETS (what 0 to 2) of a ROOM becomes v: what it was.");
        edges.row("'room 31 4 5;room 32 6 7;' = 2", "alter 0 0 0 = 31", "alter 0 0 99 = 0", "room 0 0 = 99", "alter 1 1 0 = 6",
            "alter 1 1 9 = 0", "room 1 1 = 9", "alter 0 2 0 = 5", "alter 0 2 9 = 0", "room 0 2 = 9", "room 1 0 = 32", "room 0 1 = 4",
            "room 1 2 = 7");
        edges.says("BAD.");
        edges.row("alter 0 0 0 = -1", "'room 31 4 5;' = 1", "alter 1 0 0 = -1", "alter -1 0 0 = -1", "alter 0 -1 0 = -1", "alter 0 3 0 = -1",
            "alter 0 0 -1 = -1", "alter 0 0 100 = -1", "alter 0 1 -1 = -1", "alter 0 1 10 = -1", "alter 0 2 -1 = -1", "alter 0 2 10 = -1",
            "room 0 0 = 31", "room 0 1 = 4", "room 0 2 = 5");

        edges.in("Promise 11");
        edges.says("A ROOM has a TONGUE of a KIND with a MARK from now on (it is ON, or not, as it was): KIND of that which it had "
            + "(9: none).");
        edges.row("'room 9 0 0;' = 1", "fit 0 0 0 = 9", "fit 0 3 99 = 0", "room 0 3 = 3", "room 0 4 = 99", "room 0 7 = 0", "fit 0 2 1 = 3",
            "fit 0 1 50 = 2", "hours 1 = 1", "fit 0 0 1 = 1", "room 0 7 = 1", "rule 3 = 1", "hours 1 = 0", "room 0 7 = 0", "fit 0 0 99 = 0",
            "room 0 7 = 0", "strip 0 = 0", "fit 0 3 9 = 9");
        edges.says("BAD.");
        edges.row("fit 0 0 0 = -1", "'room 9 0 0;' = 1", "fit 1 0 0 = -1", "fit -1 0 0 = -1", "fit 0 -1 0 = -1", "fit 0 4 0 = -1",
            "fit 0 0 -1 = -1", "fit 0 0 100 = -1", "fit 0 9 0 = -1", "room 0 3 = -4");

        edges.in("Promise 12");
        edges.says("The TONGUE of a ROOM is taken away; it is not ON: its KIND.");
        edges.row("'room 9 0 9;plain 0 50;' = 2", "hours 1 = 1", "room 0 7 = 1", "strip 0 = 0", "room 0 7 = 0", "rule 3 = 1",
            "room 0 3..6 = -4", "hours 3 = 0", "room 0 0 = 18", "fit 0 3 1 = 9", "strip 0 = 3");
        edges.says("BAD; STATE: it has none.");
        edges.row("strip 0 = -1", "'room 9 0 9;plain 0 50;room 9 0 0;' = 3", "strip 2 = -1", "strip -1 = -1", "strip 1 = -2",
            "room 0 3 = 0", "strip 0 = 0", "strip 0 = -2");

        edges.in("Promise 13");
        edges.says("MARK of the TONGUE of a ROOM becomes v: what it was.");
        edges.row("'room 9 0 0;bent 0 50;' = 2", "mark 0 0 = 50", "room 0 4 = 0", "room 0 3 = 3", "mark 0 99 = 0", "mark 0 99 = 99",
            "room 0 7 = 0", "hours 1 = 1", "mark 0 0 = 99", "room 0 7 = 1");
        edges.says("BAD; STATE: it has none.");
        edges.row("mark 0 5 = -1", "'room 9 0 0;bent 0 50;room 9 0 0;' = 3", "mark 0 -1 = -1", "mark 0 100 = -1", "mark 2 5 = -1",
            "mark -1 5 = -1", "mark 1 5 = -2", "mark 1 100 = -1", "room 0 4 = 50", "room 1 4 = -4");

        edges.in("Promise 14");
        edges.says("What a WALL LETS becomes v: what it was.");
        edges.row("'room1 0 0;room1 0 0;room1 0 0;' = 3", "lag 1 0 = 2", "lag 1 9 = 0", "lag 1 9 = 9", "wall 1 = 9", "wall 0 = 2");
        edges.says("BAD.");
        edges.row("lag 0 0 = -1", "'room1 0 0;room1 0 0;' = 2", "lag 0 -1 = -1", "lag 0 10 = -1", "lag 1 0 = -1", "lag -1 0 = -1", "wall 0 = 2");

        edges.in("Promise 15");
        edges.says("OUTSIDE of an hour of the day becomes v: what it was.");
        edges.row("sky 0 0 = 10", "sky 0 99 = 0", "sky 7 99 = 10", "sky 7 0 = 99", "outside 0 = 99", "outside 1..6 = 10", "outside 7 = 0");
        edges.says("BAD.");
        edges.row("sky -1 5 = -1", "sky 8 5 = -1", "sky 0 -1 = -1", "sky 0 100 = -1", "outside 0..7 = 10");
    }

    private void hours() {
        edges.in("Promise 16");
        edges.says("n HOURS (0 to 48): BURNT.");
        edges.row(RISES, "hours 0 = 0", "rule 1 = 0", "hours 1 = 1", "hours 0 = 0", "hours 48 = 48", "rule 1 = 49", "rule 2 = 49",
            "room 0 0 = 49");
        edges.says("BAD; FULL: HOUR would be 1000 or more.");
        edges.row("hours -1 = -1", "hours 49 = -1", "hours " + MIN + " = -1", "hours " + MAX + " = -1", "rule 1 = 0");
        edges.row("hours 48 = 0 *19", "hours 40 = 0", "rule 1 = 952", "hours 48 = -3", "rule 1 = 952", "hours 47 = 0", "rule 1 = 999",
            "hours 1 = -3", "hours 48 = -3", "hours 0 = 0", "rule 1 = 999", "hours 49 = -1");

        edges.in("Promise 17");
        edges.says("BY HOURS, n of them (0 to 60): BURNT (what 0), by how much SWITCHINGS are more (1), how WARM all are then, "
            + "summed (2), how WARM the coldest ROOM is behind any of them, now too (3; NONE: there are no ROOMS), which are ON then "
            + "(4; bits).");
        edges.row(RISES, "runs 0 0..4 = 0", "runs 60 0 = 60", "runs 60 1 = 1", "runs 60 2 = 60", "runs 60 3 = 0", "runs 60 4 = 1",
            "rule 1..5 = 0");
        edges.row(SWINGS, "runs 0 3 = 24", "runs 1 3 = 20", "runs 3 3 = 20", "runs 3 2 = 24", "runs 2 0 = 1", "runs 3 0 = 2",
            "runs 1 1 = 0", "runs 2 1 = 1", "runs 4 1 = 2", "runs 3 4 = 1", "runs 4 4 = 0", "hours 3 = 2", "runs 1 0 = 0",
            "runs 1 1 = 1", "runs 60 0 = 40", "runs 60 1 = 40");
        // the coldest of all rooms, not of the first; it is coldest now; six are 594 at most
        edges.row("'room 50 0 0;room 9 0 0;room 40 0 0;wall 0 9;' = 4", "runs 0 3 = 9", "runs 5 3 = 9", "runs 0 2 = 99");
        edges.row("'room99 0 0;room99 0 0;room99 0 0;room99 0 0;room99 0 0;room99 0 0;' = 6", "runs 60 2 = 594", "runs 60 3 = 99");
        edges.row("'room0 0 0;room0 0 0;room0 0 0;room0 0 0;room0 0 0;room0 0 0;' = 6", "fit 0..5 0 50 = 9", "runs 60 0 = 360",
            "runs 60 1 = 6", "runs 60 4 = 63", "runs 0 4 = 0");
        edges.row("runs 0 3 = -4", "runs 60 3 = -4", "runs 60 0..2 = 0", "runs 60 4 = 0");
        edges.says("BAD.");
        edges.row("runs -1 0 = -1", "runs 61 0..4 = -1", "runs 5 -1 = -1", "runs 5 5 = -1", "runs 61 5 = -1");

        edges.in("Promise 18");
        edges.says("BY HOURS, n of them (0 to 60): how WARM a ROOM is then (what 0), whether it is ON (1; 1, 0).");
        edges.row(RISES, "ahead 0 0 0 = 0", "ahead 0 0 1 = 0", "ahead 0 1 0 = 1", "ahead 0 1 1 = 1", "ahead 0 60 0 = 60", "ahead 0 60 1 = 1",
            "rule 1 = 0", "room 0 0 = 0");
        edges.row(SWINGS, "ahead 0 1 1 = 0", "ahead 0 2 1 = 1", "ahead 0 3 1 = 1", "ahead 0 4 1 = 0", "ahead 0 59 0 = 22", "ahead 0 60 0 = 24");
        edges.row("'room0 0 0;room0 0 0;room0 0 0;room0 0 0;room0 0 0;room7 0 1;plain 5 99;" + APART + "' = 12", "ahead 5 60 0 = 67",
            "ahead 5 60 1 = 1", "ahead 4 60 0 = 0", "ahead 4 60 1 = 0");
        edges.says("BAD.");
        edges.row("ahead 0 0 0 = -1", RISES, "ahead 0 -1 0 = -1", "ahead 0 61 0 = -1", "ahead 0 5 -1 = -1", "ahead 0 5 2 = -1",
            "ahead 1 5 0 = -1", "ahead -1 5 0 = -1");
    }

    private void coldAndAgain() {
        // a room that becomes 1 colder in hour 7 of each day, by an outside of 0, and stays as it is else
        String falls = "'room 19 1 0;out 15 15 15 15 15 15 15 0;' = 2";
        edges.in("Promise 19");
        edges.says("BY HOURS: behind how many (0 to 60) a ROOM is v (0 to 99) or less WARM first.");
        edges.row(falls, "cold 0 99 = 0", "cold 0 19 = 0", "cold 0 18 = 8", "cold 0 17 = 16", "hours 4 = 0", "cold 0 18 = 4",
            "cold 0 12 = 52", "cold 0 11 = 60", "rule 1 = 4");
        edges.row("'room 0 0 0;' = 1", "cold 0 0 = 0", "cold 0 99 = 0", "alter 0 0 99 = 0", "cold 0 99 = 0", "cold 0 98 = -4");
        // or less: 20 is passed over
        edges.row("'room 30 5 0;' = 1", "ahead 0 1 0 = 20", "cold 0 29 = 1", "cold 0 20 = 1", "cold 0 19 = 2", "cold 0 15 = 2");
        // first: it is 20 again and again
        edges.row(SWINGS, "cold 0 20 = 1", "cold 0 23 = 1", "cold 0 19 = -4");
        edges.says("BAD; NONE: behind none.");
        edges.row(falls, "hours 3 = 0", "cold 0 12 = 53", "cold 0 11 = -4", "cold 0 0 = -4", "cold 0 -1 = -1", "cold 0 100 = -1",
            "cold 1 5 = -1", "cold -1 5 = -1");
        edges.row("cold 0 5 = -1");

        edges.in("Promise 20");
        edges.says("BY HOURS: behind how many (8, 16 and so on, 56 at most) all ROOMS are as WARM as now, and ON or not as now.");
        edges.row("again = 8", "'room 10 3 0;' = 1", "again = 8", "hours 3 = 0", "again = 8");
        // it comes again behind 3 hours, but 24 are whole days
        edges.row(SWINGS, "again = -4", "hours 3 = 2", "again = 24", "rule 1 = 3");
        // 1 colder a day down to 11, then 7 got at once: behind 7 days; if it gets 8, behind 8, which are too many
        edges.row("'room 17 1 7;quick 0 12;out 15 15 15 15 15 15 15 0;' = 3", "again = 56", "alter 0 2 8 = 7", "again = -4",
            "hours 48 = 0", "hours 16 = 1", "room 0 0 = 17", "room 0 7 = 0");
        // as warm, but on then
        edges.row("'room 18 0 0;plain 0 20;' = 2", "again = -4", "hours 1 = 1", "again = 8");
        // all rooms: the last one alone is another, in how warm it is or in being on
        edges.row("'room 10 0 0;room 10 0 0;room 50 1 0;wall 1 0;' = 4", "again = -4", "alter 2 0 10 = 50", "again = 8");
        edges.row("'room 10 0 0;room 10 0 0;room 18 0 0;plain 2 20;wall 1 0;' = 5", "again = -4", "hours 1 = 1", "again = 8");
        edges.row("'room10 3 0;room10 3 0;room10 3 0;room10 3 0;room10 3 0;room10 3 0;' = 6", "again = 8", "alter 5 0 99 = 10", "again = -4");
        edges.says("NONE: behind none.");
        edges.row("'room 20 3 0;' = 1", "again = -4");
        edges.row(RISES, "again = -4");
    }

    private void needAndKind() {
        edges.in("Promise 21");
        edges.says("The least MARK of the TONGUE of a ROOM by which it is v (0 to 99) or more WARM behind each of n HOURS "
            + "(1 to 60; not now).");
        // it has to be on at 0, so that a low of 0 is needed: 2 of a plain one, 1 of a quick one, 5 of the others
        edges.row("'room 0 0 1;plain 0 50;' = 2", "need 0 1 0 = 0", "need 0 60 0 = 0", "need 0 1 1 = 2", "need 0 60 1 = 2", "fit 0 1 50 = 0",
            "need 0 60 1 = 1", "fit 0 2 50 = 1", "need 0 60 1 = 5", "fit 0 3 50 = 2", "need 0 60 1 = 5", "room 0 4 = 50");
        // 99 is the greatest mark: its low is 97
        edges.row("'room 97 0 1;plain 0 0;' = 2", "need 0 1 97 = 0", "need 0 1 98 = 99", "alter 0 2 9 = 1", "need 0 1 99 = 99",
            "need 0 60 99 = 99", "alter 0 0 98 = 97", "need 0 1 99 = -4");
        // behind each: 24 is 20 behind the first hour unless it is on at once, which takes a low of 24
        edges.row(SWINGS, "need 0 1 20 = 0", "need 0 1 21 = 26", "need 0 3 21 = 26", "need 0 3 17 = 19", "need 0 60 20 = 22");
        edges.says("BAD; STATE: it has none; NONE: by none.");
        edges.row("need 0 1 1 = -1", "'room 0 0 1;room 0 0 1;plain 0 50;' = 3", "need 0 1 2 = -4", "need 0 60 2 = -4", "need 0 1 99 = -4",
            "need 0 0 0 = -1", "need 0 61 0 = -1", "need 0 -1 0 = -1", "need 0 1 -1 = -1", "need 0 1 100 = -1", "need 2 1 1 = -1",
            "need -1 1 1 = -1", "need 1 1 1 = -2", "need 1 0 1 = -1");

        edges.in("Promise 22");
        edges.says("The KIND of the TONGUE of a ROOM, with its MARK, by which least is BURNT in n HOURS (0 to 60), of several the first "
            + "(what 0), how much (1).");
        // by a mark of 20 plain ones are on at 18, quick ones at 19, the others at 15
        edges.row("'room 10 0 0;bent 0 20;' = 2", "kind 0 0 0 = 0", "kind 0 0 1 = 0", "kind 0 1 0 = 0", "kind 0 1 1 = 1", "kind 0 60 0 = 0",
            "kind 0 60 1 = 60", "alter 0 0 16 = 10", "kind 0 60 0 = 2", "kind 0 60 1 = 0", "alter 0 0 19 = 16", "kind 0 60 0 = 0",
            "kind 0 60 1 = 0", "room 0 3 = 3", "mark 0 30 = 20", "kind 0 1 0 = 0", "kind 0 1 1 = 1");
        // on and 21 warm: a quick one alone is not on then
        edges.row("'room 18 0 3;plain 0 20;' = 2", "hours 1 = 1", "kind 0 1 0 = 1", "kind 0 1 1 = 0", "kind 0 0 0 = 0", "rule 2 = 1");
        // by a bent one 17 22 25 19 16 14 with three hours that burn; by each other kind four of the six do
        edges.row("'room 10 4 7;plain 0 20;' = 2", "kind 0 6 0 = 3", "kind 0 6 1 = 3", "fit 0 2 20 = 0", "runs 6 0 = 4", "fit 0 1 20 = 2",
            "runs 6 0 = 4", "fit 0 0 20 = 1", "runs 6 0 = 4");
        edges.says("BAD; STATE: it has none.");
        edges.row("kind 0 1 0 = -1", "'room 10 0 0;room 10 0 0;plain 0 20;' = 3", "kind 0 -1 0 = -1", "kind 0 61 0 = -1", "kind 0 1 -1 = -1",
            "kind 0 1 2 = -1", "kind 2 1 0 = -1", "kind -1 1 0 = -1", "kind 1 1 0 = -2", "kind 1 1 2 = -1");
    }

    private void swap() {
        edges.in("Promise 23");
        edges.says("Two ROOMS that are to exchange TONGUES (also one that has none; one without a TONGUE then is not ON, the other is "
            + "ON, or not, as it was) so that least is BURNT in n HOURS (0 to 60), less than as it is:");
        // a mark of 20 burns at 15, not at 30
        edges.row("'room 15 0 0;room 30 0 0;plain 0 20;wall 0 0;' = 4", "swap 60 0 = 1", "swap 60 1 = 0", "swap 1 0 = 1", "swap 0 0 = -4",
            "alter 1 0 18 = 30", "swap 60 0 = -4", "alter 1 0 19 = 18", "swap 60 0 = 1", "room 0 3 = 0", "room 1 3 = -4");
        // both have one: 15 has 20 and burns, 30 has 10; the other way round none does
        edges.row("'room 15 0 0;room 30 0 0;plain 0 20;plain 1 10;wall 0 0;' = 5", "swap 60 0 = 1", "swap 60 1 = 0");
        // on at 20: without a tongue it is not on; one that was not on is not on by the other's
        edges.row("'room 20 0 0;room 20 0 0;plain 0 22;wall 0 0;' = 4", "hours 1 = 1", "mark 0 20 = 22", "runs 9 0 = 9", "swap 9 0 = 1",
            "swap 9 1 = 0");
        edges.row("'room 20 0 0;room 20 0 0;plain 1 22;wall 0 0;' = 4", "hours 1 = 1", "mark 1 20 = 22", "runs 9 0 = 9", "swap 9 0 = 1",
            "swap 9 1 = 0");
        edges.row("'room 20 0 0;room 21 0 0;plain 0 22;quick 1 19;wall 0 0;' = 5", "hours 1 = 1", "mark 0 20 = 22", "runs 9 0 = 9",
            "swap 9 0 = 1", "swap 9 1 = 0");
        // one that was on is on by the other's: both burn on, in either way
        edges.row("'room 20 0 0;room 20 0 0;plain 0 22;plain 1 22;wall 0 0;' = 5", "hours 1 = 2", "mark 0 20 = 22", "mark 1 21 = 22",
            "runs 9 0 = 18", "swap 9 0 = -4", "swap 9 1 = -4");
        edges.says("10 times the lesser and the greater, of several the least (what 0), how much (1).");
        edges.row("'room0 0 0;room0 0 0;room0 0 0;room0 0 0;room15 0 0;room30 0 0;plain4 20;" + APART + "' = 12", "swap 9 0 = 45",
            "swap 9 1 = 0");
        edges.row("'room15 0 0;room0 0 0;room30 0 0;room0 0 0;room0 0 0;room30 0 0;plain0 20;" + APART + "' = 12", "swap 9 0 = 2",
            "swap 9 1 = 0", "alter 2 0 0 = 30", "swap 9 0 = 5");
        // the least burnt, not the first that is less: 0 and 1 save 4 of 9 hours, 0 and 2 all
        edges.row("'room 15 0 0;room 17 0 1;room 30 0 0;plain 0 20;wall 0 0;wall 1 0;' = 6", "runs 9 0 = 9", "swap 9 0 = 2", "swap 9 1 = 0",
            "alter 2 0 0 = 30", "swap 9 0 = 1", "swap 9 1 = 5");
        edges.says("BAD; NONE: by none.");
        edges.row("swap 9 0..1 = -4", "'room 15 0 0;plain 0 20;' = 2", "swap 9 0..1 = -4", "swap -1 0 = -1", "swap 61 0 = -1",
            "swap 9 -1 = -1", "swap 9 2 = -1");
    }

    private void sealAndSpare() {
        edges.in("Promise 24");
        edges.says("The WALL that had better let nothing through so that least is BURNT in n HOURS (0 to 60), less than as it is, of "
            + "several the first (what 0), how much (1).");
        // 20 is 16 behind an hour, which burns; by itself it stays 20
        edges.row("'room 20 0 0;room 0 0 0;plain 0 18;' = 3", "seal 0 0 = -4", "seal 1 0 = -4", "seal 2 0 = 0", "seal 2 1 = 0", "runs 60 0 = 59",
            "seal 60 0 = 0", "seal 60 1 = 0", "wall 0 = 2", "lag 0 0 = 2", "seal 60 0 = -4");
        edges.row("'room0 0 0;room0 0 0;room0 0 0;room0 0 0;room0 0 0;room20 0 0;plain5 18;' = 7", "seal 2 0 = 4", "seal 2 1 = 0");
        // either of the two walls will do: 20 is 12 with both, 16 with one
        edges.row("'room 0 0 0;room 20 0 0;room 0 0 0;plain 1 17;' = 4", "runs 2 0 = 1", "seal 2 0 = 0", "seal 2 1 = 0");
        // a second one that is better: by wall 0 20 comes to 18, by wall 1 to 14
        edges.row("'room 0 0 0;room 20 0 0;room 0 0 0;plain 1 17;wall 0 1;wall 1 3;' = 6", "runs 2 0 = 1", "runs 3 0 = 2", "seal 2 0 = 1",
            "seal 3 0 = 1", "seal 3 1 = 0");
        edges.says("BAD; NONE: none.");
        edges.row("seal 9 0..1 = -4", "'room 0 0 0;plain 0 9;' = 2", "seal 9 0..1 = -4", "seal -1 0 = -1", "seal 61 0 = -1", "seal 9 -1 = -1",
            "seal 9 2 = -1");

        edges.in("Promise 25");
        edges.says("The ROOM whose TONGUE had better be taken away (as by strip()) so that least is BURNT in n HOURS (0 to 60), no ROOM "
            + "being less than v (0 to 99) WARM behind any of them (not now), of several the first (what 0), how much (1).");
        edges.row("'room 15 0 0;room 15 0 0;plain 0 20;plain 1 20;' = 4", "spare 0 99 0 = 0", "spare 0 99 1 = 0", "spare 1 0 0 = 0",
            "spare 1 0 1 = 1", "spare 60 15 0 = 0", "spare 60 15 1 = 60", "spare 60 16 0 = -4", "room 0 3 = 0");
        edges.row("'room 99 0 0;plain 0 20;' = 2", "spare 60 99 0 = 0", "spare 60 99 1 = 0", "alter 0 0 98 = 99", "spare 60 99 0 = -4");
        // as by strip(): it is on, but not without its tongue
        edges.row("'room 15 0 0;plain 0 20;' = 2", "hours 1 = 1", "spare 9 0 1 = 0");
        // the second saves more; one that burns nothing may be spared too
        edges.row("'room 30 0 0;room 15 0 0;plain 0 20;plain 1 20;wall 0 0;' = 5", "spare 9 0 0 = 1", "spare 9 0 1 = 0", "strip 1 = 0",
            "spare 9 0 0 = 0", "spare 9 0 1 = 0");
        // behind any: 20 behind the first hour, 24 behind the third; by room 0 it is 15 then
        edges.row("'room 24 3 5;room 50 0 0;plain 0 22;plain 1 9;wall 0 0;' = 5", "spare 3 20 0 = 1", "spare 3 20 1 = 2", "spare 3 21 0 = -4",
            "spare 3 15 0 = 0", "spare 3 15 1 = 0", "spare 3 16 0 = 1");
        // not now: 5 now, 50 behind the hour
        edges.row("'room 5 0 0;room 95 0 0;plain 0 90;wall 0 5;' = 4", "spare 1 50 0 = 0", "spare 1 51 0 = -4");
        // no room: another one is too cold, though it has no tongue
        edges.row("'room 50 0 0;room 5 0 0;plain 0 9;wall 0 0;' = 4", "spare 1 5 0 = 0", "spare 1 6 0 = -4");
        edges.row("'room15 0 0;room15 0 0;room15 0 0;room15 0 0;room15 0 0;room15 0 0;plain5 20;' = 7", "spare 60 15 0 = 5", "spare 60 15 1 = 0");
        edges.says("BAD; NONE: none.");
        edges.row("spare 1 0 0..1 = -4", "'room 15 0 0;' = 1", "spare 1 0 0..1 = -4", "spare -1 0 0 = -1", "spare 61 0 0 = -1", "spare 1 -1 0 = -1",
            "spare 1 100 0 = -1", "spare 1 0 -1 = -1", "spare 1 0 2 = -1");
    }

    private void fuse() {
        edges.in("Promise 26");
        edges.says("In each of n HOURS (0 to 8) the fuse blows by v out of ten (0 to 10), by itself (no ROOM GETS anything, nothing is "
            + "BURNT in it; TONGUES switch): that a ROOM is w (0 to 99) or more WARM behind them: 0, 1.");
        // all eight hours of ten to one; not one of eight
        edges.row(RISES, "luck 9 0 8 8 0 = 1", "luck 9 0 8 8 1 = 100000000", "luck 1 0 8 1 0 = 99999999", "luck 1 0 8 1 1 = 100000000",
            "luck 5 0 8 8 0 = 1", "luck 5 0 8 8 1 = 256", "luck 5 0 8 9 0 = 0", "luck 5 0 8 9 1 = 1", "luck 5 0 8 0 0 = 1",
            "luck 5 0 8 0 1 = 1", "luck 0 0 8 8 0 = 1", "luck 0 0 8 8 1 = 1", "luck 10 0 8 1 0 = 0", "luck 10 0 8 1 1 = 1",
            "luck 10 0 8 0 0 = 1", "luck 5 0 0 0 0 = 1", "luck 5 0 0 1 0 = 0", "luck 5 0 0 1 1 = 1", "rule 1..5 = 0", "room 0 0 = 0");
        edges.row("'room 97 0 1;plain 0 99;' = 2", "luck 3 0 1 98 0 = 7", "luck 3 0 1 98 1 = 10", "luck 3 0 2 99 0 = 49",
            "luck 3 0 2 99 1 = 100", "alter 0 0 99 = 97", "luck 3 0 2 99 0 = 1");
        // tongues switch in a blown hour: at 18 it is on, and a blown hour later still
        edges.row("'room 18 0 3;quick 0 19;' = 2", "luck 5 0 2 21 0 = 3", "luck 5 0 2 21 1 = 4");
        // and at 22 it is not on any more, blown or not, so that it is 21 and then 20
        edges.row("'room 18 1 4;plain 0 20;' = 2", "hours 1 = 1", "room 0 0 = 22", "luck 5 0 2 20 0 = 1", "luck 5 0 2 21 0 = 0",
            "mean 5 2 0 = 0");
        // the last room, and not another
        edges.row("'room0 0 0;room0 0 0;room0 0 0;room0 0 0;room0 0 0;room0 0 1;plain5 99;" + APART + "' = 12", "luck 5 5 2 2 0 = 1",
            "luck 5 5 2 2 1 = 4", "luck 5 4 2 1 0 = 0");
        edges.says("BAD.");
        edges.row("luck 5 0 1 1 0 = -1", RISES, "luck -1 0 1 1 0 = -1", "luck 11 0 1 1 0 = -1", "luck 5 -1 1 1 0 = -1", "luck 5 1 1 1 0 = -1",
            "luck 5 0 -1 1 0 = -1", "luck 5 0 9 1 0 = -1", "luck 5 0 1 -1 0 = -1", "luck 5 0 1 100 0 = -1", "luck 5 0 1 1 -1 = -1",
            "luck 5 0 1 1 2 = -1");

        edges.in("Promise 27");
        edges.says("Likewise, the mean of what is BURNT: 0, 1.");
        edges.row("mean 3 3 0 = 0", "mean 3 3 1 = 1", RISES, "mean 3 1 0 = 7", "mean 3 1 1 = 10", "mean 3 8 0 = 28", "mean 3 8 1 = 5",
            "mean 5 8 0 = 4", "mean 5 8 1 = 1", "mean 0 8 0 = 8", "mean 0 8 1 = 1", "mean 10 8 0 = 0", "mean 10 8 1 = 1", "mean 5 0 0 = 0",
            "mean 5 0 1 = 1", "hours 5 = 5", "mean 3 1 0 = 7", "rule 2 = 5");
        // six rooms in eight hours, seven out of ten of them: 336 tenths
        edges.row("'room0 0 0;room0 0 0;room0 0 0;room0 0 0;room0 0 0;room0 0 0;' = 6", "fit 0..5 0 50 = 9", "mean 3 8 0 = 168", "mean 3 8 1 = 5");
        // 18, then 22 and not on, unless the first is blown: 1/2 in the first hour, 1/4 in the second
        edges.row("'room 18 0 4;plain 0 20;' = 2", "mean 5 2 0 = 3", "mean 5 2 1 = 4");
        edges.says("BAD.");
        edges.row("mean -1 1 0 = -1", "mean 11 1 0 = -1", "mean 5 -1 0 = -1", "mean 5 9 0 = -1", "mean 5 1 -1 = -1", "mean 5 1 2 = -1");
    }

    private void feeling() {
        edges.in("Promise 28");
        edges.says("SEEN: behind n HOURS (0 to 20) a ROOM is v (0 to 99) WARM: how many are.");
        edges.row("'room 0 0 1;room 99 0 0;plain 0 99;wall 0 0;' = 4", "see 0 0 0 = 1", "see 20 1 99 = 2", "see 20 0 20 = 3", "count 0 = 3",
            "kinds 0 = 15", "see 20 1 98 = 4", "kinds 0 = 0");
        edges.says("BAD; FULL.");
        edges.row("see 0 0 0 = -1", RISES, "see -1 0 0 = -1", "see 21 0 0 = -1", "see 0 -1 0 = -1", "see 0 1 0 = -1", "see 0 0 -1 = -1",
            "see 0 0 100 = -1", "count 0 = 0", "see 0 0 0 = 1", "see 0 0 0 = 2", "see 0 0 0 = 3", "see 0 0 0 = 4", "see 0 0 0 = 5",
            "see 0 0 0 = 6", "see 0 0 9 = -3 *2", "count 0 = 6", "kinds 0 = 15", "forget 5 = 6", "see 0 0 0 = 6");

        edges.in("Promise 29");
        edges.says("SEEN are the first n alone: how many there were.");
        edges.row(RISES, "forget 0 = 0", "see 0 0 0 = 1", "see 1 0 1 = 2", "see 2 0 9 = 3", "kinds 0 = 0", "forget 3 = 3", "kinds 0 = 0",
            "forget 2 = 3", "count 0 = 2", "kinds 0 = 15", "see 2 0 9 = 3", "forget 0 = 3", "count 0 = 0", "kinds 0 = 15");
        edges.row(RISES, "see 2 0 9 = 1", "see 1 0 1 = 2", "forget 1 = 2", "kinds 0 = 0");
        edges.row(RISES, "see 0 0 0 = _ *6", "forget 6 = 6", "forget 0 = 6");
        edges.says("BAD.");
        edges.row("forget -1 = -1", "forget 1 = -1", RISES, "see 0 0 0 = 1", "see 0 0 0 = 2", "forget 3 = -1", "forget -1 = -1",
            "forget " + MIN + " = -1", "forget " + MAX + " = -1", "count 0 = 2");

        edges.in("Promise 30");
        edges.says("KINDS of the TONGUE of a ROOM (bits), with its MARK, by which, all else as it is, all is as SEEN.");
        // 18 by a mark of 20: plain 18 21 24, quick 18 21 21, the others stay 18
        edges.row("'room 18 0 3;bent 0 20;' = 2", "kinds 0 = 15", "see 2 0 24 = 1", "kinds 0 = 1", "forget 0 = 1", "see 2 0 21 = 1", "kinds 0 = 2",
            "forget 0 = 1", "see 1 0 18 = 1", "kinds 0 = 12", "see 1 0 21 = 2", "kinds 0 = 0", "forget 0 = 2", "see 1 0 21 = 1", "kinds 0 = 3",
            "see 2 0 24 = 2", "kinds 0 = 1", "room 0 3 = 3");
        // on at 22: bent ones alone stay on
        edges.row("'room 18 0 4;plain 0 20;' = 2", "hours 1 = 1", "see 1 0 26 = 1", "kinds 0 = 8", "forget 0 = 1", "see 1 0 22 = 1", "kinds 0 = 7");
        // its mark: 18 is on by a mark of 23 with all four
        edges.row("'room 18 0 3;plain 0 23;' = 2", "see 1 0 21 = 1", "kinds 0 = 15");
        // felt elsewhere: another room's tongue is not tried
        edges.row("'room 18 0 3;room 18 0 3;plain 0 20;lazy 1 20;wall 0 0;' = 5", "see 1 1 21 = 1", "kinds 0 = 0", "kinds 1 = 3");
        edges.says("BAD; STATE: it has none.");
        edges.row("kinds 0 = -1", "'room 18 0 3;room 18 0 3;plain 0 20;' = 3", "kinds 2 = -1", "kinds -1 = -1", "kinds 1 = -2", "kinds 0 = 15");

        edges.in("Promise 31");
        edges.says("What a WALL may let through (bits 0 to 9), all else as it is, so that all is as SEEN.");
        for (int lets = 0; lets <= 9; lets++) {
            edges.row("'room 20 0 0;room 10 0 0;' = 2", "see 1 1 " + (10 + lets) + " = 1", "lets 0 = " + (1 << lets), "wall 0 = 2");
        }
        edges.row("'room 20 0 0;room 10 0 0;' = 2", "lets 0 = 1023", "see 0 0 20 = 1", "lets 0 = 1023", "see 0 0 21 = 2", "lets 0 = 0");
        // 2 warmer: 0 to 4 let nothing through, 5 to 9 one
        edges.row("'room 12 0 0;room 10 0 0;' = 2", "see 20 0 12 = 1", "lets 0 = 31", "forget 0 = 1", "see 20 0 11 = 1", "lets 0 = 992");
        // the last wall, the others as they are
        edges.row("'room10 0 0;room10 0 0;room10 0 0;room10 0 0;room20 0 0;room10 0 0;wall3 0;' = 7", "see 1 5 17 = 1", "lets 4 = 128",
            "lets 0..3 = 0");
        edges.says("BAD.");
        edges.row("lets 0 = -1", "'room 20 0 0;' = 1", "lets 0 = -1", "'room 20 0 0;room 10 0 0;' = 2", "lets 1 = -1", "lets -1 = -1",
            "lets " + MAX + " = -1", "lets " + MIN + " = -1");
    }

    private void asking() {
        edges.in("Promise 32");
        edges.says("Behind how many HOURS (0 to 20), in which ROOM to feel how WARM it is, so that of lets() of a WALL fewest are left "
            + "at the worst, fewer than now: 10 times the HOURS and the ROOM, of several the least (what 0), how many these are (1).");
        edges.row("'room 20 0 0;room 10 0 0;' = 2", "ask 0 0 = 10", "ask 0 1 = 1", "see 1 0 15 = 1", "ask 0 0..1 = -4");
        edges.row("'room 12 0 0;room 10 0 0;' = 2", "ask 0 0 = 10", "ask 0 1 = 5", "see 1 0 12 = 1", "ask 0 0..1 = -4", "rule 1 = 0", "wall 0 = 2");
        // both rise alike until room 1 has come to 17: room 0 is 2 warmer behind 19 hours, which is felt behind 20;
        // by a mark of 1 more it would be felt behind 21, which are too many
        edges.row("'room 0 0 1;room 0 0 1;plain 0 99;quick 1 16;' = 4", "ask 0 0 = 200", "ask 0 1 = 5", "mark 1 17 = 16", "ask 0 0..1 = -4",
            "hours 1 = 2", "ask 0 0 = 200", "ask 0 1 = 5");
        // 3 warmer: 0 to 3 let nothing through, 4 to 6 one, 7 to 9 two: four are left at the worst
        edges.row("'room 13 0 0;room 10 0 0;' = 2", "ask 0 0 = 10", "ask 0 1 = 4", "see 1 0 12 = 1", "lets 0 = 112", "ask 0 0..1 = -4");
        // searched: by all ten five are left at the worst behind an hour, and never fewer; without 9 there would be four
        edges.row("'room 18 0 0;room 16 3 0;' = 2", "lets 0 = 1023", "ask 0 0 = 10", "ask 0 1 = 5");
        // only what is as seen counts: 16 behind two hours by 3, 4, 8, each of which another hour 1 has
        edges.row("'room 20 0 0;room 10 0 0;' = 2", "see 2 0 16 = 1", "lets 0 = 280", "ask 0 0 = 10", "ask 0 1 = 1");
        // the last wall: of its two rooms the first; or the second, where the first is 99 by most of them
        edges.row("'room10 0 0;room10 0 0;room10 0 0;room10 0 0;room10 0 0;room20 0 0;wall3 0;' = 7", "ask 4 0 = 14", "ask 4 1 = 1",
            "ask 0 0..1 = -4");
        edges.row("'room10 0 0;room10 0 0;room10 0 0;room10 0 0;room97 0 9;room87 0 0;plain4 99;wall3 0;' = 8", "ask 4 0 = 15", "ask 4 1 = 1");
        edges.says("BAD; NONE: none.");
        edges.row("ask 0 0 = -1", "'room 10 0 0;' = 1", "ask 0 0 = -1", "'room 10 0 0;room 10 0 0;' = 2", "ask 0 0..1 = -4", "ask 1 0 = -1",
            "ask -1 0 = -1", "ask 0 -1 = -1", "ask 0 2 = -1");
        // nothing is left, and of nothing no fewer
        edges.row("'room 20 0 0;room 10 0 0;' = 2", "see 0 0 21 = 1", "lets 0 = 0", "ask 0 0..1 = -4");
    }

    private void drift() {
        edges.in("Promise 33");
        edges.says("By itself, n HOURS (1 to 60) by a seed:");
        edges.row(RISES, "drift 5 1 0 = 1", "drift 5 1 1 = 1", "drift 5 60 0 = 60", "drift 5 60 1 = 60", "rule 1..5 = 0", "outside 0..7 = 10",
            "hours 48 = _ *20", "hours 39 = _", "drift 5 60 0 = 60", "rule 1 = 999");
        edges.says("ahead of each the seed becomes seed times 1103515245 and 12345; bits 16 to 30 of it are got: OUTSIDE of that HOUR is "
            + "got modulo 40 (in place of that told):");
        // a room at 0 that is 9 tenths of the outside behind an hour. 0 becomes 12345: 0 is got; then -740551042, of whose
        // bits 21468 are got: 28. -2147483648 becomes -2147471303: 0 again, for bit 31 is none of them. -1 becomes
        // -1103502900, 2147483647 becomes 1043980748: 15929, so 9. 76 becomes one by which 39 is the outside, 14 has 0
        edges.row("'room 0 9 0;out 99 99 99 99 99 99 99 99;' = 2", "drift 0 1 1 = 0", "drift 0 2 1 = 25", "drift " + MIN + " 1 1 = 0",
            "drift " + MIN + " 2 1 = 25", "drift -1 1 1 = 8", "drift " + MAX + " 1 1 = 8", "drift 76 1 1 = 35", "drift 14 1 1 = 0",
            "drift 1 1 1 = 34", "drift 15 1 1 = 34");
        // the seed goes round the ints at once, and again ahead of each hour: 16 35 24 outside, and 31 20 39
        edges.row("'room 0 9 0;' = 1", "drift 123456789 1 1 = 14", "drift 123456789 2 1 = 32", "drift 123456789 3 1 = 25",
            "drift -123456789 1 1 = 27", "drift -123456789 2 1 = 21", "drift -123456789 3 1 = 37");
        edges.says("BURNT (what 0), how WARM all are in the end, summed (1).");
        edges.row("'room 5 0 1;room 7 0 0;plain 0 20;wall 0 0;' = 4", "hours 2 = 2", "drift 3 4 0 = 4", "drift 3 4 1 = 18", "rule 2 = 2");
        edges.says("BAD; STATE: there are no ROOMS.");
        edges.row("drift 1 1 0..1 = -2", "drift 1 0 0 = -1", "'room 5 0 1;' = 1", "drift 1 0 0 = -1", "drift 1 -1 0 = -1", "drift 1 61 0 = -1",
            "drift 1 1 -1 = -1", "drift 1 1 2 = -1", "drift 1 1 1 = 5");
    }

    private void images() {
        edges.in("Promise 34");
        edges.says("IMAGE k (0, 1) is ROOMS with their TONGUES, WALLS, OUTSIDE, HOUR, FUEL, SWITCHINGS: whether there was one (1, 0).");
        edges.row("count 1 = 0", "keep 1 = 0", "count 1 = 1", "keep 1 = 1", "count 1 = 1", "keep 0 = 0", "keep 0 = 1", "count 1 = 2");
        edges.row("'room 5 0 1;room 7 0 0;plain 0 20;' = 3", "hours 2 = 2", "keep 0 = 0", "hours 3 = 3", "keep 1 = 0", "keep 0 = 1",
            "back 0 = 5", "rule 2 = 5");
        edges.says("BAD.");
        edges.row("keep -1 = -1", "keep 2 = -1", "keep " + MIN + " = -1", "keep " + MAX + " = -1", "count 1 = 0");

        edges.in("Promise 35");
        edges.says("All is as IMAGE k: HOUR.");
        edges.row("'room 5 4 1;room 7 0 0;lazy 0 20;wall 0 3;out 7 6 5;' = 5", "keep 0 = 0", "hours 3 = 3", "keep 1 = 0", "alter 0..1 0 50 = _",
            "alter 0 1 9 = 4", "alter 0 2 9 = 1", "fit 0 1 44 = 2", "fit 1 3 55 = 9", "lag 0 8 = 3", "sky 0..7 77 = _", "hours 5 = _",
            "back 0 = 0", "rule 1..3 = 0", "rule 5 = 0", "room 0 0 = 5", "room 0 1 = 4", "room 0 2 = 1", "room 0 3 = 2", "room 0 4 = 20",
            "room 0 7 = 0", "room 1 0 = 7", "room 1 3 = -4", "wall 0 = 3", "outside 0 = 7", "outside 1 = 6", "outside 2 = 5", "outside 3 = 10",
            "back 1 = 3", "rule 1 = 3", "rule 2 = 3", "rule 3 = 1", "room 0 7 = 1", "alter 0 0 0 = _", "sky 0 0 = 7", "fit 1 0 0 = 9",
            "hours 9 = _", "back 1 = 3", "outside 0 = 7", "room 1 3 = -4", "strip 0 = 2", "back 0 = 0", "room 0 3 = 2", "count 1 = 2");
        // at hour 999 and back: hours may go again
        edges.row("'room 5 0 0;' = 1", "hours 1 = 0", "keep 0 = 0", "hours 48 = 0 *20", "hours 38 = 0", "hours 1 = -3", "keep 1 = 0",
            "back 0 = 1", "hours 1 = 0", "back 1 = 999", "hours 1 = -3");
        edges.says("BAD; STATE: there is none.");
        edges.row("back -1 = -1", "back 2 = -1", "back " + MIN + " = -1", "back " + MAX + " = -1", "back 0..1 = -2", "keep 1 = 0", "back 0 = -2",
            "back 1 = 0", "'' = 0", "back 1 = -2");
    }

    private void sheets() {
        edges.in("Promise 36");
        edges.says("A SHEET is a new row of CELLS 0: 1.");
        // room 0 and a mark of 0 in each pair, though others were there
        edges.row("'room 5 0 0;plain 0 9;' = 2", "sheet 0 0 0 = 1", "count 3 = 0", "sheet 0 0 40 = 1", "count 3 = 40", "lay 0 0..39 77 = 1",
            "sheet 0 1 40 = 1", "read 0 1 0 20 = 20", "torn = 0", "room 0 4 = 0", "lay 0 0..39 77 = 1", "sheet 0 1 2 = 1", "count 3 = 2",
            "sheet 0 1 40 = 1", "read 0 1 0 20 = 20", "sheet 3 2 1 = 1", "lay 3 0 1 = 1", "lay 3 1 1 = -12", "count 3 = 40");
        edges.says("BAD: also n above 40; -10 - 4.");
        edges.row("sheet 0 1 3 = 1", "lay 0 2 5 = 1", "sheet -1 0 1 = -1", "sheet 4 0 1 = -1", "sheet 0 -1 1 = -1", "sheet 0 3 1 = -1",
            "sheet 0 0 41 = -1", "sheet 0 0 " + MAX + " = -1", "sheet 0 0 -1 = -14", "sheet 0 2 " + MIN + " = -14", "sheet 1 0 -1 = -14",
            "lay 1 0 0 = -11", "count 3 = 3", "read 0 1 0 1 = -20", "read 0 0 0 1 = 0", "torn = 3");

        edges.in("Promise 37");
        edges.says("CELL i of a SHEET becomes v (its lowest bits): 1.");
        // 99 by the lowest 8 bits, by the lowest 16, by all 32; 128 and 32768 are below 0 in theirs
        bits(0, 99, 355, -157, 65635, Integer.MIN_VALUE + 99);
        bits(1, 99, 65635, -65437, 0, 0);
        refusedBits(0, 127, 128, 255, -1);
        refusedBits(1, 355, 32767, 32768, 65535);
        refusedBits(2, 355, 65635, -157, Integer.MIN_VALUE + 99);
        edges.row("sheet 0 0 40 = 1", "lay 0 0 " + MIN + " = 1", "lay 0 39 " + MAX + " = 1");
        // each cell by itself: rooms 0 and 1 in cells 0 and 2
        edges.row("'room 5 0 0;room 5 0 0;plain 0 9;plain 1 9;' = 4", "sheet 1 2 4 = 1", "lay 1 2 1 = 1", "lay 1 1 40 = 1", "lay 1 3 50 = 1",
            "lay 1 3 51 = 1", "read 1 2 0 2 = 2", "room 0 4 = 40", "room 1 4 = 51");
        edges.says("BAD: k; -10 less the FAULT: NULL, INDEX.");
        edges.row("lay -1 0 0 = -1", "lay 4 0 0 = -1", "lay " + MIN + " 0 0 = -1", "lay " + MAX + " 0 0 = -1", "lay 0 0 0 = -11", "lay 0 -1 0 = -11",
            "sheet 0 0 0 = 1", "lay 0 0 0 = -12", "sheet 0 0 40 = 1", "lay 0 -1 0 = -12", "lay 0 40 0 = -12", "lay 0 " + MIN + " 0 = -12",
            "lay 0 " + MAX + " 0 = -12", "lay 0 39 0 = 1", "lay 1 0 0 = -11");
    }

    /** Each of the numbers is a mark of 0 to 99 by its lowest bits in that lane. */
    private void bits(int lane, int... numbers) {
        for (int v : numbers) {
            int mark = lane == 0 ? (byte) v : (short) v;
            edges.row("'room 5 0 0;plain 0 9;' = 2", "sheet 0 " + lane + " 2 = 1", "lay 0 1 " + v + " = 1", "read 0 " + lane + " 0 1 = 1",
                "room 0 4 = " + mark);
        }
    }

    /** Each of the numbers is no mark in that lane. */
    private void refusedBits(int lane, int... numbers) {
        for (int v : numbers) {
            edges.row("'room 5 0 0;plain 0 9;' = 2", "sheet 0 " + lane + " 2 = 1", "lay 0 1 " + v + " = 1", "read 0 " + lane + " 0 1 = -20",
                "room 0 4 = 9");
        }
    }

    private void reading() {
        edges.in("Promise 38");
        edges.says("n (0 to 20) times a ROOM, a MARK are read of a SHEET taken as of a lane, two CELLS each from CELL f on, one behind "
            + "another: as by mark(), and then an HOUR goes: how many came.");
        edges.row("'room 0 0 0;plain 0 50;' = 2", "sheet 0 0 40 = 1", "lay 0 1 7 = 1", "lay 0 39 6 = 1", "read 0 0 0 0 = 0", "rule 1 = 0",
            "room 0 4 = 50", "read 0 0 0 1 = 1", "rule 1 = 1", "room 0 4 = 7", "read 0 0 0 20 = 20", "torn = 0", "rule 1 = 21",
            "room 0 4 = 6", "read 0 0 38 1 = 1", "rule 1 = 22");
        // from cell f on; a mark, then an hour: by 30 it is on in the first, by 0 it is not in the second
        edges.row("'room 5 0 1;room 5 0 1;plain 0 0;plain 1 0;wall 0 0;' = 5", "sheet 3 1 5 = 1", "lay 3 1 1 = 1", "lay 3 2 30 = 1", "lay 3 3 1 = 1",
            "read 3 1 1 2 = 2", "torn = 0", "rule 1 = 2", "rule 2 = 1", "room 1 0 = 6", "room 1 4 = 0", "room 0 4 = 0", "rule 3 = 2");
        edges.says("What the machine refuses: those that were whole ahead came (its FAULT is asked by torn()).");
        // cells 0 to 4: two pairs and a half; the half has a room that there is not, which is not asked; from cell 3 on it
        // is a mark
        edges.row("'room 0 0 0;plain 0 50;' = 2", "sheet 0 0 5 = 1", "lay 0 4 9 = 1", "read 0 0 0 20 = 2", "torn = 2", "rule 1 = 2",
            "room 0 4 = 0", "read 0 0 4 1 = 0", "torn = 2", "read 0 0 5 1 = 0", "torn = 2", "read 0 0 -1 1 = 0", "torn = 2", "rule 1 = 2",
            "read 0 0 3 1 = 1", "torn = 0", "room 0 4 = 9", "read 0 0 " + MAX + " 20 = 0", "torn = 2", "read 0 0 " + MIN + " 20 = 0",
            "torn = 2", "read 0 0 -2 20 = 0", "torn = 2", "rule 1 = 3");
        edges.row("'room 0 0 0;plain 0 50;' = 2", "read 1 0 0 1 = 0", "torn = 1", "sheet 1 0 0 = 1", "read 1 0 0 1 = 0", "torn = 2",
            "read 1 1 0 1 = 0", "torn = 3", "sheet 1 2 40 = 1", "read 1 0 0 1 = 0", "torn = 3", "read 1 1 0 1 = 0", "torn = 3", "rule 1 = 0");
        // what the machine refuses is met ahead of hour 999, for that pair is not whole
        edges.row("'room 0 0 0;plain 0 0;' = 2", "sheet 0 0 3 = 1", "hours 48 = 0 *20", "hours 38 = 0", "read 0 0 0 20 = 1", "torn = 2",
            "rule 1 = 999");
        edges.says("BAD: k, lane, n;");
        edges.row("sheet 0 0 2 = 1", "read -1 0 0 1 = -1", "read 4 0 0 1 = -1", "read 0 -1 0 1 = -1", "read 0 3 0 1 = -1", "read 0 0 0 -1 = -1",
            "read 0 0 0 21 = -1", "read 0 0 0 " + MAX + " = -1", "read 0 0 0 " + MIN + " = -1", "read 4 0 0 0 = -1", "read 0 3 0 0 = -1");
        edges.says("-20 less i: the i-th, whole, is refused by mark() (in either way), or HOUR is 999: then none came; the first met.");
        // BAD: a room, a mark that there is not; STATE: a room without a tongue
        edges.row("'room 0 0 0;room 0 0 0;plain 0 50;' = 3", "sheet 0 2 40 = 1", "lay 0 38 2 = 1", "read 0 2 0 20 = -39", "lay 0 38 1 = 1",
            "read 0 2 0 20 = -39", "lay 0 38 -1 = 1", "read 0 2 0 20 = -39", "lay 0 38 0 = 1", "lay 0 39 100 = 1", "read 0 2 0 20 = -39",
            "lay 0 39 -1 = 1", "read 0 2 0 20 = -39", "lay 0 0 1 = 1", "read 0 2 0 20 = -20", "rule 1 = 0", "room 0 4 = 50", "torn = 0",
            "lay 0 0 0 = 1", "read 0 2 0 19 = 19", "lay 0 39 99 = 1", "read 0 2 0 20 = 20", "room 0 4 = 99");
        edges.row("sheet 0 2 2 = 1", "read 0 2 0 1 = -20", "read 0 2 0 0 = 0");
        edges.row("'room 0 0 0;plain 0 0;' = 2", "sheet 0 0 40 = 1", "hours 48 = 0 *20", "hours 20 = 0", "read 0 0 0 20 = -39", "rule 1 = 980",
            "read 0 0 0 19 = 19", "rule 1 = 999", "read 0 0 0 1 = -20", "read 0 0 0 0 = 0", "rule 1 = 999");
        // the first met: a refused pair ahead of a torn one, a torn one ahead of hour 999
        edges.row("'room 0 0 0;plain 0 50;' = 2", "sheet 0 0 3 = 1", "lay 0 0 1 = 1", "read 0 0 0 2 = -20", "torn = 0");

        edges.in("Promise 39");
        edges.says("The FAULT of the latest read() that came to an end; 0.");
        edges.row("torn = 0", "'room 0 0 0;plain 0 50;' = 2", "read 0 0 0 1 = 0", "torn = 1 *2", "sheet 0 0 -1 = -14", "lay 0 0 0 = -11",
            "lay 1 5 0 = -11", "torn = 1", "sheet 0 0 3 = 1", "lay 0 9 0 = -12", "torn = 1", "read 0 0 0 21 = -1", "torn = 1", "lay 0 0 1 = 1",
            "read 0 0 0 1 = -20", "torn = 1", "read 0 1 0 1 = 0", "torn = 3", "lay 0 0 0 = 1", "read 0 0 0 2 = 1", "torn = 2",
            "read 0 0 0 1 = 1", "torn = 0", "read 0 0 9 1 = 0", "torn = 2", "'' = 0", "torn = 2", "read 0 0 0 0 = 0", "torn = 0");
    }

    private void counting() {
        edges.in("Promise 40");
        edges.says("How many: 0 SEEN, 1 IMAGES, 2 bytes on THE TAPE, 3 CELLS of SHEET 0 (NONE: nothing), 4 LOSSES of all ROOMS, 5 what "
            + "all WALLS that are there LET.");
        edges.row("count 0..2 = 0", "count 3 = -4", "count 4..5 = 0", "sheet 1 0 9 = 1", "count 3 = -4", "sheet 0 0 0 = 1", "count 3 = 0",
            "sheet 0 0 40 = 1", "count 3 = 40");
        edges.row("'room1 9 0;room1 9 0;room1 9 0;room1 9 0;room1 9 0;room1 9 0;wall0 9;wall1 9;wall2 9;wall3 9;wall4 9;' = 11",
            "count 4 = 54", "count 5 = 45", "see 0 0 1 = _ *6", "count 0 = 6", "keep 0..1 = 0", "count 1 = 2", "feed 32 = _ *160",
            "count 2 = 160");
        edges.row("'room1 3 0;' = 1", "count 4 = 3", "count 5 = 0", "'room1 3 0;room1 4 0;' = 2", "count 4 = 7", "count 5 = 2", "lag 0 0 = 2",
            "count 5 = 0", "keep 1 = 0", "count 1 = 1");
        edges.says("BAD.");
        edges.row("count -1 = -1", "count 6 = -1", "count " + MIN + " = -1", "count " + MAX + " = -1");
    }
}
