import java.util.TreeSet;

/**
 * Each promise of the document by answers worked out by hand: ordinary ones, the edges that
 * the document names, wrong numbers. Rows marked "searched" are not: they were found by running
 * the class, and their answers then looked up with Oracle. What a step is stands in Steps.
 */
public final class PromisesTest {
    private static int wrong = 0;
    private static final TreeSet<Integer> TESTED = new TreeSet<>();

    /** Room 0 is 20 20 21 22 23 24 19 22 warm behind 0 to 7 hours, room 1 10 12 13 14 15 16 17 17. */
    private static final String TWO = "'room 20 3 5;room 10 0 0;plain 0 22;' = 3";
    /** A room that gets 5 in each hour that is not blown. */
    private static final String FUSED = "'room 10 0 5;plain 0 20;' = 2";

    private static void run(int promise, String... steps) {
        TESTED.add(promise);
        wrong += Steps.wrongOf("promise " + promise, steps);
    }

    private static void newObject() {
        run(1, "rule 0..5 = 0", "rule 6 = 10", "outside 0..7 = 10", "lay 0..3 0 0 = -11", "count 0..2 = 0", "count 3 = -4",
            "count 4..5 = 0", "fault = 0", "torn = 0", "room 0 0 = -1", "wall 0 = -1", "back 0..1 = -2");
    }

    private static void tape() {
        run(2, "feed -1 = -1", "feed 128 = -1", "feed 0 = 1", "feed 127 = 2", "count 2 = 2");
        run(2, "feed 32 = _ *159", "feed 32 = 160", "feed 32 = -3", "feed 128 = -1", "count 2 = 160");
        run(3, "end 0 = 0", "end 1 = -1", "feed 59 = 1", "feed 59 = 2", "end 3 = -1", "end -1 = -1", "count 2 = 2",
            "end 2 = 2", "end 1 = 2", "count 2 = 1", "feed 32 = 2", "end 0 = 2", "count 2 = 0");
    }

    private static void text(String text, int answer, int fault) {
        int rooms = fault == 0 ? text.split("room", -1).length - 1 : 2;
        run(4, TWO, "'" + text + "' = " + answer, "count 2 = 0", "rule 0 = " + rooms);
        run(5, "fault = 0", "'" + text + "' = " + answer, "fault = " + fault, "fault = " + fault, "'' = 0", "fault = 0");
    }

    private static void texts() {
        text("", 0, 0);
        text("   ", 0, 0);
        text("room 1 2 3;", 1, 0);
        text("room1 2 3;", 1, 0);
        text("  room  01 2 3 ; ", 1, 0);
        text("room 99 9 9;", 1, 0);
        text("plain 0 5;room 1 1 1;", 2, 0);
        text("out;", 1, 0);
        text("out 1 2 3 4 5 6 7 8;", 1, 0);
        text("room 1 1 1;room 1 1 1;room 1 1 1;room 1 1 1;room 1 1 1;room 1 1 1;wall 4 9;bent 5 99;", 8, 0);
        // 1: no token, a number too long
        text("Room 1 2 3;", -10, 1);
        text("room 1 2 3; $", -22, 1);
        text("room 1\t2 3;", -16, 1);
        text("room 123 2 3;", -15, 1);
        text("room 1 2 003;", -19, 1);
        // 2: what can not stand there, the end
        text("rooms 1 2 3;", -10, 2);
        text("roo 1 2 3;", -10, 2);
        text(";", -10, 2);
        text(" 5", -11, 2);
        text("room 1 2;", -18, 2);
        text("room 1 2 3 4;", -21, 2);
        text("room 1 2 room;", -19, 2);
        text("room 1 2 3", -20, 2);
        text("room 1 2 3  ", -22, 2);
        text("room", -14, 2);
        text("wall;", -14, 2);
        text("plain 0;", -17, 2);
        text("out 1 room", -16, 2);
        text("out 1", -15, 2);
        text("out", -13, 2);
        text("out 1 2 3 4 5 6 7", -27, 2);
        // the end behind eight outsides is no 9th one
        text("out1 2 3 4 5 6 7 8", -28, 2);
        text("out 1 2 3 4 5 6 7 8  ", -31, 2);
        text("room 1 2 3;out 1 2 3 4 5 6 7 8", -40, 2);
        text("room 1 2 3;;", -21, 2);
        // 3: bounds
        text("room 1 10 1;", -17, 3);
        text("room 1 1 10;", -19, 3);
        text("plain 6 1;", -16, 3);
        text("wall 5 1;", -15, 3);
        text("room 1 1 1;room 1 1 1;wall 0 10;", -39, 3);
        // 4: told twice, found ahead of what stands behind it
        text("out;out;", -14, 4);
        text("out 5;out $", -16, 4);
        text("room 1 1 1;plain 0 5;quick 0 $", -37, 4);
        text("plain 3 5;quick 3 5;", -26, 4);
        text("room 1 1 1;room 1 1 1;wall 0 3;wall 0 44", -46, 4);
        // 5: too many
        text("room 1 1 1;room 1 1 1;room 1 1 1;room 1 1 1;room 1 1 1;room 1 1 1;room $", -76, 5);
        text("out 1 2 3 4 5 6 7 8 9;", -30, 5);
        text("out 1 2 3 4 5 6 7 8 9", -30, 5);
        text("out 1 2 3 4 5 6 7 8 room", -30, 5);
        text("out 1 2 3 4 5 6 7 8room;", -29, 5);
        // a 9th outside, whether it is a number or not
        text("out 1 2 3 4 5 6 7 8 123 ;", -30, 5);
        text("out 1 2 3 4 5 6 7 8 999;", -30, 5);
        text("out 1 2 3 4 5 6 7 8   100", -32, 5);
        text("room 1 1 1;out1 2 3 4 5 6 7 8 0000;", -40, 5);
        text("out 1 2 3 4 5 6 7 8 123$;", -30, 5);
        text("out 1 2 3 4 5 6 7 8 9$;", -30, 5);
        text("out 1 2 3 4 5 6 7 8 9 123;", -30, 5);
        // what begins no token behind eight outsides is no 9th one
        text("out1 1 2 3 4 5 6 7\0", -28, 1);
        text("out 1 2 3 4 5 6 7 8 $", -30, 1);
        text("out 1 2 3 4 5 6 7 8$;", -29, 1);
        text("out 1 2 3 4 5 6 7 8\t;", -29, 1);
        text("out 1 2 3 4 5 6 7 8  $9;", -31, 1);
        text("out 1 2 3 4 5 6 7 8 A;", -30, 1);
        text("out 1 2 3 4 5 6 7 8 -9;", -30, 1);
        text("room 1 1 1;out1 2 3 4 5 6 7 8\177;", -39, 1);
        // an 8th one that is none, and what stands behind the line, are no 9th one
        text("out 1 2 3 4 5 6 7 123;", -28, 1);
        text("out 1 2 3 4 5 6 7 $;", -28, 1);
        text("out 1 2 3 4 5 6 7 room;", -28, 2);
        text("out 1 2 3 4 5 6 7 888 9;", -28, 1);
        text("out 1 2 3 4 5 6 7 8;123", -30, 1);
        text("out 1 2 3 4 5 6 7 8 ;$", -31, 1);
        text("out 1 2 3 4 5 6 7 8;9", -30, 2);
        // 6: behind all
        text("plain 5 1;", -20, 6);
        text("plain 0 1;", -20, 6);
        text("room 1 1 1;wall 0 1; ", -31, 6);
        text("room 1 1 1;plain 1 1;", -31, 6);
        text("room 1 1 1;plain 1 1;x", -31, 2);
        run(4, TWO, "hours 3 = 3", "see 0 0 1 = 1", "keep 1 = 0", "'room 1 10 1;' = -17", "rule 1 = 3", "count 0 = 1",
            "count 1 = 1", "room 0 0 = 22");
        run(4, TWO, "hours 3 = 3", "lag 0 7 = 2", "sky 4 50 = 10", "sheet 0 0 3 = 1", "see 0 0 1 = 1", "keep 1 = 0",
            "'room 1 1 1;room 2 2 2;out 7 8;' = 3", "rule 1 = 0", "rule 2 = 0", "rule 3 = 0", "rule 5 = 0", "wall 0 = 2",
            "outside 0 = 7", "outside 1 = 8", "outside 4 = 10", "room 0 3 = -4", "count 0 = 0", "count 1 = 0", "back 1 = -2",
            "count 3 = 3", "keep 0 = 0", "'' = 0", "back 0 = -2");
    }

    private static void looking() {
        run(6, TWO, "hours 7 = 6", "rule 0 = 2", "rule 1 = 7", "rule 2 = 6", "rule 3 = 3", "rule 4 = 39", "rule 5 = 1",
            "rule 6 = 10", "sky 7 33 = 10", "rule 6 = 33", "hours 1 = 1", "rule 6 = 10", "rule -1 = -1", "rule 7 = -1");
        run(6, "'room 0 0 0;room 0 0 0;plain 1 9;' = 3", "hours 1 = 1", "rule 5 = 2");
        run(7, "'room 1 2 3;room 4 5 6;room 7 8 9;room 10 0 1;room 50 0 0;plain 0 20;quick 1 20;lazy 2 20;bent 3 20;' = 9",
            "room 0 0 = 1", "room 0 1 = 2", "room 0 2 = 3", "room 0 3 = 0", "room 0 4 = 20", "room 0 5 = 28", "room 0 6 = 22",
            "room 0 7 = 0", "room 1 3 = 1", "room 1 5 = 29", "room 1 6 = 21", "room 2 3 = 2", "room 2 5 = 25", "room 2 6 = 22",
            "room 3 3 = 3", "room 3 5 = 25", "room 3 6 = 24", "room 4 0 = 50", "room 4 3 = -4", "room 4 4 = -4",
            "room 4 5 = -4", "room 4 6 = -4", "room 4 7 = 0", "room 5 0 = -1", "room -1 0 = -1", "room 0 8 = -1",
            "room 4 8 = -1", "room 0 -1 = -1", "hours 1 = 4", "room 0 7 = 1", "mark 2 0 = 20", "room 2 5 = 5");
        run(8, "wall 0 = -1", "'room 1 1 1;' = 1", "wall 0 = -1", "'room 1 1 1;room 1 1 1;room 1 1 1;wall 1 9;' = 4",
            "wall 0 = 2", "wall 1 = 9", "wall 2 = -1", "wall -1 = -1", "wall 2147483647 = -1");
        run(9, "'out 3 4;' = 1", "outside 0 = 3", "outside 1 = 4", "outside 2 = 10", "outside 7 = 10", "outside 8 = -1",
            "outside -1 = -1");
    }

    private static void changing() {
        run(10, TWO, "alter 0 0 99 = 20", "alter 0 0 0 = 99", "alter 0 0 100 = -1", "alter 0 0 -1 = -1", "alter 0 1 9 = 3",
            "alter 0 1 10 = -1", "alter 0 2 0 = 5", "alter 0 2 10 = -1", "alter 0 3 0 = -1", "alter 0 -1 0 = -1",
            "alter 2 0 0 = -1", "alter -1 0 0 = -1", "room 0 0 = 0", "room 0 1 = 9", "room 0 2 = 0", "room 1 0 = 10");
        run(11, TWO, "hours 1 = 1", "fit 0 3 40 = 0", "room 0 3 = 3", "room 0 4 = 40", "room 0 7 = 1", "fit 1 1 0 = 9",
            "room 1 7 = 0", "fit 1 2 99 = 1", "fit 1 4 0 = -1", "fit 1 -1 0 = -1", "fit 1 0 100 = -1", "fit 1 0 -1 = -1",
            "fit 2 0 0 = -1", "fit -1 0 0 = -1", "room 1 3 = 2", "room 1 4 = 99");
        run(12, TWO, "hours 1 = 1", "rule 5 = 1", "strip 0 = 0", "rule 5 = 0", "room 0 3 = -4", "strip 0 = -2", "strip 1 = -2",
            "strip 2 = -1", "strip -1 = -1", "hours 2 = 0", "rule 3 = 1");
        run(13, TWO, "mark 0 99 = 22", "mark 0 0 = 99", "mark 0 100 = -1", "mark 0 -1 = -1", "room 0 4 = 0", "mark 1 5 = -2",
            "mark 1 100 = -1", "mark 2 5 = -1", "mark -1 5 = -1");
        run(14, TWO, "lag 0 9 = 2", "lag 0 0 = 9", "lag 0 10 = -1", "lag 0 -1 = -1", "lag 1 0 = -1", "lag -1 0 = -1",
            "wall 0 = 0");
        run(15, "sky 0 99 = 10", "sky 0 0 = 99", "sky 7 5 = 10", "sky 8 5 = -1", "sky -1 5 = -1", "sky 0 100 = -1",
            "sky 0 -1 = -1", "outside 0 = 0", "outside 7 = 5");
    }

    private static void going() {
        run(16, TWO, "hours 0 = 0", "rule 1 = 0", "hours 1 = 1", "room 0 0 = 20", "room 1 0 = 12", "rule 3 = 1", "hours 4 = 4",
            "room 0 0 = 24", "room 1 0 = 16", "rule 3 = 1", "hours 1 = 0", "room 0 0 = 19", "room 0 7 = 0", "rule 3 = 2",
            "hours 1 = 1", "room 0 0 = 22", "rule 1 = 7", "rule 2 = 6", "hours -1 = -1", "hours 49 = -1", "rule 1 = 7");
        // towards 0 where it goes the other way: -75 and -15 tenths
        run(16, "'room 5 3 0;room 20 1 0;wall 0 5;' = 3", "hours 1 = 0", "room 0 0 = 13", "room 1 0 = 12");
        // never below 0, never above 99
        run(16, "'room 0 0 0;room 10 0 0;room 0 0 0;room 97 0 9;plain 3 99;wall 0 9;wall 1 9;wall 2 0;' = 8", "hours 1 = 1",
            "room 0 0 = 9", "room 1 0 = 0", "room 2 0 = 9", "room 3 0 = 99");
        // the outside of each hour of the day
        run(16, "'room 10 9 0;out 0 99;' = 2", "hours 1 = 0", "room 0 0 = 1", "hours 1 = 0", "room 0 0 = 89");
        run(16, "hours 48 = 0 *20", "rule 1 = 960", "hours 40 = -3", "rule 1 = 960", "hours 49 = -1", "hours 39 = 0",
            "rule 1 = 999", "hours 1 = -3", "hours 0 = 0");
        run(17, TWO, "runs 0 0 = 0", "runs 7 0 = 6", "runs 7 1 = 3", "runs 7 2 = 39", "runs 5 3 = 10", "runs 7 4 = 1",
            "runs 6 4 = 0", "runs 60 5 = -1", "runs 60 -1 = -1", "runs 61 0 = -1", "runs -1 0 = -1", "rule 1 = 0");
        run(17, TWO, "hours 7 = 6", "runs 1 0 = 1", "runs 1 1 = 0");
        // 24 20 22 24 20 22 24 and so on
        run(17, "'room 24 3 5;plain 0 22;' = 2", "runs 0 3 = 24", "runs 1 3 = 20", "runs 3 3 = 20", "runs 3 2 = 24");
        run(17, "runs 3 3 = -4", "runs 61 3 = -1", "runs 3 2 = 0", "runs 3 4 = 0");
        run(18, TWO, "ahead 0 0 0 = 20", "ahead 0 5 0 = 24", "ahead 0 6 0 = 19", "ahead 0 5 1 = 1", "ahead 0 6 1 = 0",
            "ahead 1 7 0 = 17", "ahead 1 7 1 = 0", "ahead 0 60 2 = -1", "ahead 0 60 -1 = -1", "ahead 0 61 0 = -1",
            "ahead 0 -1 0 = -1", "ahead 2 0 0 = -1", "ahead -1 0 0 = -1", "rule 1 = 0");
        run(19, TWO, "cold 0 20 = 0", "cold 0 19 = 6", "cold 1 99 = 0", "cold 1 9 = -4", "cold 0 100 = -1", "cold 0 -1 = -1",
            "cold 2 0 = -1", "cold -1 0 = -1");
        run(19, "'room 0 0 0;' = 1", "cold 0 0 = 0");
        // searched: behind 60 hours at the most: an hour later it is too late
        run(19, "'room 94 0 1;room 87 1 0;bent 0 29;lazy 1 18;wall 0 1;' = 5", "ahead 0 59 0 = 29", "ahead 0 60 0 = 28",
            "cold 0 28 = 60", "keep 0 = 0", "alter 0 0 99 = 94", "cold 0 28 = -4");
        run(20, "again = 8", "'room 10 3 0;' = 1", "again = 8", "'room 20 3 0;' = 1", "again = -4");
        // 20 22 24 20 and so on: it comes again behind 3 hours, so behind 24 of whole days
        run(20, "'room 20 3 5;plain 0 22;' = 2", "again = 24", "rule 1 = 0");
        // searched: behind 56 at the most: one comes again behind 7, the other behind 64
        run(20, "'room 13 4 4;lazy 0 17;' = 2", "again = 56");
        run(20, "'room 40 1 5;room 57 1 8;bent 0 26;quick 1 24;wall 0 1;' = 5", "hours 40 = 10", "again = -4");
        // as warm as now, but on then
        run(20, "'room 18 0 0;plain 0 20;' = 2", "again = -4", "hours 1 = 1", "again = 8");
    }

    private static void best() {
        // loss 5 by how much it is warmer than 10: 20 goes to 15, 12 or 13 ...
        run(21, "'room 20 5 9;room 50 0 0;plain 0 0;wall 0 0;' = 4", "need 0 1 15 = 0", "need 0 1 16 = 22", "need 0 1 24 = 22",
            "need 0 1 25 = -4", "need 0 0 5 = -1", "need 0 61 5 = -1", "need 0 60 -1 = -1", "need 0 60 100 = -1",
            "need 1 5 5 = -2", "need 2 5 5 = -1", "need -1 5 5 = -1", "need 1 0 5 = -1", "room 0 4 = 0");
        run(21, "'room 97 0 1;plain 0 0;' = 2", "need 0 1 0 = 0", "need 0 1 98 = 99", "need 0 1 99 = -4");
        run(22, "'room 19 0 1;room 5 0 0;plain 0 20;wall 0 0;' = 4", "kind 0 1 0 = 0", "kind 0 1 1 = 0", "alter 0 0 18 = 19",
            "kind 0 1 0 = 2", "kind 0 1 1 = 0", "alter 0 0 15 = 18", "kind 0 1 0 = 0", "kind 0 1 1 = 1", "kind 0 0 1 = 0",
            "kind 0 61 0 = -1", "kind 0 -1 0 = -1", "kind 0 1 2 = -1", "kind 0 1 -1 = -1", "kind 1 1 0 = -2",
            "kind 1 1 2 = -1", "kind 2 1 0 = -1", "kind -1 1 0 = -1", "room 0 3 = 0");
        // 15 and a mark of 20: it burns; 30 and a mark of 20: it does not; a room at 0 burns for any mark above
        run(23, "swap 3 0 = -4", "'room 15 0 0;room 30 0 0;room 20 0 0;plain 0 20;wall 0 0;wall 1 0;' = 6", "swap 1 0 = 1",
            "swap 1 1 = 0", "swap 0 0 = -4", "swap 0 1 = -4", "swap 61 0 = -1", "swap -1 0 = -1", "swap 1 2 = -1",
            "swap 1 -1 = -1", "room 0 3 = 0", "room 1 3 = -4");
        run(23, "'room 15 0 0;room 15 0 0;room 30 0 0;plain 0 20;plain 1 18;wall 0 0;wall 1 0;' = 7", "swap 1 0 = 2",
            "swap 1 1 = 1", "mark 1 15 = 18", "swap 1 0 = 2", "swap 1 1 = 0");
        run(23, "'room 9 0 0;room 15 0 0;room 30 0 0;plain 1 20;wall 0 0;wall 1 0;' = 6", "swap 1 0 = 12", "swap 1 1 = 0");
        // a room that is on keeps it when it gets another tongue, and is not on without one
        run(23, "'room 20 0 0;room 20 0 0;plain 0 22;plain 1 22;wall 0 0;' = 5", "hours 1 = 2", "mark 0 20 = 22",
            "mark 1 20 = 22", "runs 1 0 = 2", "swap 1 0 = -4", "strip 1 = 0", "swap 1 0 = 1", "swap 1 1 = 0");
        run(24, "seal 3 0 = -4", "'room 20 0 0;room 0 0 0;room 0 0 0;plain 0 18;' = 4", "seal 9 0 = 0", "seal 9 1 = 0",
            "seal 0 0 = -4", "seal 61 0 = -1", "seal -1 0 = -1", "seal 9 2 = -1", "seal 9 -1 = -1", "wall 0 = 2", "lag 0 0 = 2",
            "seal 9 0 = -4");
        run(24, "'room 0 0 0;room 0 0 0;room 20 0 0;plain 2 18;' = 4", "seal 9 0 = 1", "seal 9 1 = 0");
        run(25, FUSED, "hours 1 = 1", "spare 1 0 0 = 0", "spare 1 0 1 = 0", "spare 1 16 0 = -4");
        run(25, "spare 3 0 0 = -4", "'room 15 0 0;room 30 0 0;room 15 0 0;plain 0 20;plain 1 10;plain 2 20;wall 0 0;wall 1 0;' = 8",
            "spare 1 0 0 = 0", "spare 1 0 1 = 1", "spare 1 15 0 = 0", "spare 1 16 0 = -4", "spare 0 99 0 = 0", "spare 0 99 1 = 0",
            "strip 0 = 0", "spare 1 15 0 = 2", "spare 1 15 1 = 0", "strip 2 = 0", "spare 1 15 0 = 1", "strip 1 = 0",
            "spare 1 15 0 = -4", "spare 61 0 0 = -1", "spare -1 0 0 = -1", "spare 1 100 0 = -1", "spare 1 -1 0 = -1",
            "spare 1 0 2 = -1", "spare 1 0 -1 = -1");
        // now it is colder than v, but behind the hour it is not
        run(25, "'room 5 0 0;room 95 0 0;plain 0 90;wall 0 5;' = 4", "spare 1 50 0 = 0", "spare 1 51 0 = -4");
    }

    private static void fuse() {
        run(26, FUSED, "luck 3 0 2 20 0 = 49", "luck 3 0 2 20 1 = 100", "luck 3 0 2 15 0 = 91", "luck 3 0 2 15 1 = 100",
            "luck 3 0 2 10 0 = 1", "luck 3 0 2 10 1 = 1", "luck 3 0 2 21 0 = 0", "luck 3 0 2 21 1 = 1", "luck 5 0 1 11 0 = 1",
            "luck 5 0 1 11 1 = 2", "luck 10 0 8 11 0 = 0", "luck 0 0 1 15 0 = 1", "luck 0 0 1 15 1 = 1", "luck 3 0 0 10 0 = 1",
            "luck 3 0 0 11 0 = 0", "luck 3 0 0 11 1 = 1", "luck 11 0 2 20 0 = -1", "luck -1 0 2 20 0 = -1",
            "luck 3 1 2 20 0 = -1", "luck 3 -1 2 20 0 = -1", "luck 3 0 9 20 0 = -1", "luck 3 0 -1 20 0 = -1",
            "luck 3 0 2 100 0 = -1", "luck 3 0 2 -1 0 = -1", "luck 3 0 2 20 2 = -1", "luck 3 0 2 20 -1 = -1", "rule 1 = 0",
            "rule 2 = 0");
        run(26, FUSED, "luck 3 0 2 0 0 = 1", "luck 3 0 2 99 0 = 0");
        // 8 hours of warm air alone: it is 1 - (1/10)^8 that not all are blown
        run(26, "'room 0 0 1;plain 0 99;' = 2", "luck 1 0 8 1 0 = 99999999", "luck 1 0 8 1 1 = 100000000");
        // the tongue switches in a blown hour: at 18 it is on, and stays so at 19
        run(26, "'room 18 0 3;room 9 0 0;quick 0 19;wall 0 0;' = 4", "luck 10 0 1 18 0 = 1", "luck 5 0 2 21 0 = 3",
            "luck 5 0 2 21 1 = 4");
        run(27, "mean 3 3 0 = 0", "mean 3 3 1 = 1", FUSED, "mean 3 2 0 = 7", "mean 3 2 1 = 5", "mean 0 2 0 = 2", "mean 0 2 1 = 1",
            "mean 10 8 0 = 0", "mean 10 8 1 = 1", "mean 3 0 0 = 0", "mean 11 2 0 = -1", "mean -1 2 0 = -1", "mean 3 9 0 = -1",
            "mean 3 -1 0 = -1", "mean 3 2 2 = -1", "mean 3 2 -1 = -1", "rule 1 = 0", "hours 1 = 1", "mean 3 1 0 = 7",
            "mean 3 1 1 = 10");
    }

    private static void feeling() {
        run(28, TWO, "see 21 0 5 = -1", "see -1 0 5 = -1", "see 0 2 5 = -1", "see 0 -1 5 = -1", "see 0 0 100 = -1",
            "see 0 0 -1 = -1", "see 20 1 99 = 1", "see 0 0 0 = 2", "see 0 0 0 = 3", "see 0 0 0 = 4", "see 0 0 0 = 5",
            "see 0 0 0 = 6", "see 0 0 0 = -3", "see 21 0 0 = -1", "count 0 = 6");
        run(29, TWO, "forget 0 = 0", "forget 1 = -1", "see 0 0 20 = 1", "see 0 0 21 = 2", "see 0 0 22 = 3", "forget 4 = -1",
            "forget -1 = -1", "count 0 = 3", "kinds 0 = 0", "forget 1 = 3", "count 0 = 1", "kinds 0 = 15", "forget 1 = 1",
            "forget 0 = 1", "count 0 = 0");
        // 20 by a mark of 22: plain and quick ones are on (22), lazy and bent ones not (17)
        run(30, "'room 20 3 5;room 20 0 0;plain 0 22;wall 0 0;' = 4", "kinds 0 = 15", "see 1 0 22 = 1", "kinds 0 = 3",
            "see 0 0 20 = 2", "kinds 0 = 3", "see 1 1 19 = 3", "kinds 0 = 0", "forget 0 = 3", "see 1 0 17 = 1", "kinds 0 = 12",
            "kinds 1 = -2", "kinds 2 = -1", "kinds -1 = -1", "room 0 3 = 0");
        // what is felt is felt from now on: an hour later it is another hour
        run(30, "'room 20 0 1;plain 0 22;' = 2", "see 1 0 21 = 1", "kinds 0 = 3", "hours 1 = 1", "kinds 0 = 0");
        // 10 warmer: as much goes through as the wall lets, and 10 less behind it
        run(31, "'room 20 0 0;room 10 0 0;room 10 0 0;' = 3", "lets 0 = 1023", "see 1 0 15 = 1", "lets 0 = 32", "lets 1 = 0",
            "forget 0 = 1", "see 1 0 18 = 1", "lets 0 = 4", "lets 1 = 1023", "lets 2 = -1", "lets -1 = -1", "wall 0 = 2");
        run(31, "'room 11 0 0;room 10 0 0;' = 2", "see 1 0 11 = 1", "lets 0 = 1023", "forget 0 = 1", "see 1 0 10 = 1", "lets 0 = 0");
        run(32, "'room 20 0 0;room 10 0 0;room 10 0 0;' = 3", "ask 0 0 = 10", "ask 0 1 = 1", "ask 1 0 = 21", "ask 2 0 = -1",
            "ask -1 0 = -1", "ask 0 2 = -1", "ask 0 -1 = -1", "see 1 0 18 = 1", "ask 0 0 = -4", "ask 0 1 = -4", "see 1 0 19 = 2",
            "ask 0 0 = -4");
        // 2 warmer: 0 to 4 let nothing through, 5 to 9 one, and then nothing more
        run(32, "'room 12 0 0;room 10 0 0;' = 2", "ask 0 0 = 10", "ask 0 1 = 5");
    }

    private static void skies() {
        // 1 times 1103515245 and 12345 is 1103527590: 16838 by bits 16 to 30, 38 modulo 40
        run(33, "'room 8 9 0;' = 1", "drift 1 1 1 = 35", "drift 1 1 0 = 0", "rule 1 = 0", "room 0 0 = 8", "drift 1 0 0 = -1",
            "drift 1 61 0 = -1", "drift 1 1 2 = -1", "drift 1 1 -1 = -1");
        run(33, "drift 1 1 0 = -2", "drift 1 0 0 = -1");
        // 0 becomes 12345, then -740551042: 0 and 21468 are got, so 0 and 28
        run(33, "'room 10 9 1;plain 0 50;' = 2", "drift 0 1 1 = 2", "drift 0 2 1 = 26", "hours 3 = 3", "drift 0 2 0 = 2");
    }

    private static void imaging() {
        run(34, TWO, "count 1 = 0", "keep 2 = -1", "keep -1 = -1", "keep 0 = 0", "keep 0 = 1", "count 1 = 1", "keep 1 = 0",
            "count 1 = 2");
        run(35, TWO, "back 0 = -2", "back 2 = -1", "back -1 = -1", "hours 3 = 3", "keep 1 = 0", "back 0 = -2", "hours 4 = 3",
            "fit 0 3 50 = 0", "fit 1 3 50 = 9", "lag 0 9 = 2", "sky 0 9 = 10", "alter 0 1 0 = 3", "alter 0 2 0 = 5",
            "see 0 0 0 = 1", "back 1 = 3", "rule 1 = 3", "rule 2 = 3", "rule 3 = 1", "rule 5 = 1", "room 0 0 = 22",
            "room 0 1 = 3", "room 0 2 = 5", "room 0 3 = 0", "room 0 4 = 22", "room 1 3 = -4", "wall 0 = 2", "outside 0 = 10",
            "count 0 = 1", "hours 1 = 1", "back 1 = 3", "room 0 0 = 22");
    }

    private static void sheets() {
        run(36, "sheet 0 0 0 = 1", "count 3 = 0", "sheet 0 2 40 = 1", "count 3 = 40", "sheet 0 2 41 = -1", "sheet 0 3 1 = -1",
            "sheet 0 -1 1 = -1", "sheet 4 0 1 = -1", "sheet -1 0 1 = -1", "sheet 0 3 -1 = -1", "sheet 0 0 -1 = -14",
            "sheet 0 0 -2147483648 = -14", "count 3 = 40");
        run(36, TWO, "sheet 1 0 2 = 1", "lay 1 1 50 = 1", "sheet 1 0 2 = 1", "read 1 0 0 1 = 1", "room 0 4 = 0");
        run(37, "lay 0 0 0 = -11", "lay 0 -1 0 = -11", "lay 4 0 0 = -1", "lay -1 0 0 = -1", "sheet 0 0 2 = 1", "lay 0 0 5 = 1",
            "lay 0 1 5 = 1", "lay 0 2 5 = -12", "lay 0 -1 5 = -12", "sheet 0 0 0 = 1", "lay 0 0 0 = -12");
        // the lowest bits: 256 and 22 is 22 as a byte, -234 as a short's lowest bits is -234
        run(37, TWO, "sheet 0 0 2 = 1", "lay 0 0 256 = 1", "lay 0 1 278 = 1", "read 0 0 0 1 = 1", "room 0 4 = 22",
            "lay 0 1 128 = 1", "read 0 0 0 1 = -20", "sheet 0 1 2 = 1", "lay 0 1 278 = 1", "read 0 1 0 1 = -20", "lay 0 1 65559 = 1",
            "read 0 1 0 1 = 1", "room 0 4 = 23", "sheet 0 2 2 = 1", "lay 0 1 65559 = 1", "read 0 2 0 1 = -20", "lay 0 1 24 = 1",
            "read 0 2 0 1 = 1", "room 0 4 = 24");
        run(38, TWO, "read 4 0 0 0 = -1", "read -1 0 0 0 = -1", "read 0 3 0 0 = -1", "read 0 -1 0 0 = -1", "read 0 0 0 21 = -1",
            "read 0 0 0 -1 = -1", "read 0 0 0 1 = 0", "torn = 1", "sheet 0 0 5 = 1", "lay 0 1 30 = 1", "lay 0 3 22 = 1",
            "read 0 0 0 2 = 2", "torn = 0", "rule 1 = 2", "room 0 4 = 22", "room 0 0 = 21", "read 0 0 0 3 = 2", "torn = 2",
            "rule 1 = 4", "read 0 0 5 3 = 0", "torn = 2", "read 0 0 -1 1 = 0", "torn = 2", "read 0 0 2147483647 1 = 0",
            "torn = 2", "read 0 1 0 1 = 0", "torn = 3", "rule 1 = 4");
        // what mark() refuses in either way: none came, and torn() is as it was
        run(38, TWO, "sheet 2 1 6 = 1", "lay 2 1 30 = 1", "lay 2 2 1 = 1", "read 3 1 0 1 = 0", "torn = 1", "read 2 1 0 3 = -21",
            "rule 1 = 0", "room 0 4 = 22", "torn = 1", "lay 2 2 2 = 1", "read 2 1 0 3 = -21", "lay 2 2 0 = 1", "lay 2 3 100 = 1",
            "read 2 1 0 3 = -21", "lay 2 3 99 = 1", "lay 2 5 9 = 1", "read 2 1 0 20 = 3", "torn = 2", "room 0 4 = 9");
        run(38, "'room 5 0 0;plain 0 0;' = 2", "sheet 0 0 4 = 1", "hours 48 = 0 *20", "hours 38 = 0", "read 0 0 0 2 = -21",
            "rule 1 = 998", "read 0 0 0 1 = 1", "rule 1 = 999", "read 0 0 0 1 = -20", "torn = 0", "read 0 0 3 1 = 0",
            "torn = 2", "read 0 0 0 0 = 0", "torn = 0");
        run(39, TWO, "torn = 0", "read 0 0 0 1 = 0", "torn = 1", "torn = 1", "read 0 0 0 21 = -1", "torn = 1", "sheet 0 0 2 = 1",
            "torn = 1", "read 0 2 0 1 = 0", "torn = 3", "read 0 0 1 1 = 0", "torn = 2", "read 0 0 0 1 = 1", "torn = 0");
        run(40, TWO, "see 0 0 1 = 1", "keep 1 = 0", "feed 1 = 1", "feed 1 = 2", "feed 1 = 3", "sheet 0 1 4 = 1",
            "sheet 1 1 9 = 1", "alter 1 1 4 = 0", "count 0 = 1", "count 1 = 1", "count 2 = 3", "count 3 = 4", "count 4 = 7",
            "count 5 = 2", "count 6 = -1", "count -1 = -1");
        run(40, "count 5 = 0", "'room 1 1 1;' = 1", "count 5 = 0", "count 4 = 1");
    }

    private static void constants() {
        if (TongueRooms.BAD != -1 || TongueRooms.STATE != -2 || TongueRooms.FULL != -3 || TongueRooms.NONE != -4) {
            wrong++;
            System.out.println("the constants");
        }
    }

    public static void main(String[] args) {
        newObject();
        tape();
        texts();
        looking();
        changing();
        going();
        best();
        fuse();
        feeling();
        skies();
        imaging();
        sheets();
        constants();
        for (int promise = 1; promise <= 40; promise++) {
            if (!TESTED.contains(promise)) {
                wrong++;
                System.out.println("promise " + promise + " has no test");
            }
        }
        System.out.println(wrong == 0 ? "all promises are kept" : wrong + " answers are not as due");
        if (wrong != 0) System.exit(1);
    }
}
