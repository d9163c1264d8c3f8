/**
 * What is refused changes nothing, but THE TAPE where a text is; and what is only asked changes nothing either.
 * BAD by a number that is not as told is in BoundsTest.
 */
public final class RefusedTest {
    private static int wrong = 0;
    private static int asked = 0;

    private static void fail(String what) {
        wrong++;
        System.out.println(what);
    }

    private static void same(String label, String difference) {
        asked++;
        if (!difference.isEmpty()) fail(label + ": " + difference);
    }

    /** Each call is refused with that answer. */
    private static void refused(String[] state, long answer, String... calls) {
        for (String call : calls) {
            Subject subject = Twins.in(state);
            long got = Twins.call(subject, call);
            String label = Twins.name(state) + ", " + call;
            if (got != answer) fail(label + " is " + got + ", not " + answer);
            same(label, Twins.difference(subject, Twins.in(state)));
        }
    }

    /** Each call is answered and changes nothing. */
    private static void quiet(String[] state, String... calls) {
        for (String call : calls) {
            Subject subject = Twins.in(state);
            Twins.call(subject, call);
            same(Twins.name(state) + ", " + call, Twins.difference(subject, Twins.in(state)));
        }
    }

    /** A text that is refused: but for its FAULT all is as with the twin, whose tape is empty too. */
    private static void refusedText(String text, int place, int code) {
        Subject subject = Twins.in(Twins.TOLD);
        for (char c : text.toCharArray()) subject.call("feed", c);
        long got = subject.call("text");
        if (got != -10 - place) fail(text + " is " + got);
        if (subject.call("fault") != code) fail(text + " is not of FAULT " + code);
        same(text, Twins.differenceButFault(subject, Twins.in(Twins.TOLD)));
    }

    private static void states() {
        refused(Twins.PLAIN, TongueRooms.STATE, "strip 0", "strip 1", "mark 0 5", "mark 1 99", "need 0 5 5", "kind 1 5 0", "kinds 0", "back 0",
            "back 1");
        refused(Twins.NEW, TongueRooms.STATE, "drift 1 1 0", "drift 1 60 1", "back 0", "back 1");
        refused(Twins.FULL, TongueRooms.STATE, "back 0", "strip 1", "mark 2 5", "need 4 5 5", "kind 1 5 0", "kinds 2");
        refused(Twins.FULL, TongueRooms.FULL, "feed 0", "feed 127", "hours 1", "hours 48", "see 0 0 0", "see 20 5 99");
        refused(Twins.NEW, TongueRooms.NONE, "runs 0 3", "runs 60 3", "swap 5 0", "seal 5 1", "spare 5 5 0", "count 3");
        refused(Twins.PLAIN, TongueRooms.NONE, "room 0 3", "room 1 6", "cold 0 49", "swap 60 0", "seal 60 0", "spare 60 0 0", "ask 0 0");
        refused(Twins.RICH, TongueRooms.NONE, "need 1 60 99", "spare 60 99 0");
        refused(Twins.NEW, TongueRooms.BAD, "room 0 0", "wall 0", "alter 0 0 0", "fit 0 0 0", "strip 0", "mark 0 0", "lag 0 0", "ahead 0 0 0",
            "cold 0 0", "need 0 1 0", "kind 0 0 0", "luck 0 0 0 0 0", "see 0 0 0", "kinds 0", "lets 0", "ask 0 0", "end 1", "forget 1");
        refused(Twins.FULL, TongueRooms.BAD, "feed 128", "hours 49", "see 21 0 0", "end 161", "forget 7");
    }

    private static void machine() {
        refused(Twins.RICH, -11, "lay 3 0 0", "lay 3 -1 5", "lay 3 40 5");
        refused(Twins.RICH, -12, "lay 0 6 5", "lay 0 -1 5", "lay 1 4 5", "lay 2 2147483647 5", "lay 2 -2147483648 5");
        refused(Twins.PLAIN, -12, "lay 0 0 5");
        refused(Twins.RICH, -14, "sheet 0 0 -1", "sheet 3 2 -2147483648", "sheet 1 1 -40");
        refused(Twins.RICH, -1, "sheet 0 0 41", "sheet 3 2 2147483647");
        // the first two pairs of sheet 2 could come, the third has room 1 and no mark behind it; a mark of 30 is no room
        refused(Twins.RICH, -20, "read 0 0 1 1", "read 0 0 1 3");
        refused(Twins.RICH, -21, "read 2 2 1 2");
        // hour 999
        refused(Twins.FULL, -20, "read 0 0 0 1", "read 0 0 0 20");
    }

    private static void texts() {
        refusedText("$", 0, 1);
        refusedText("room 1 2 3;room 4 5 6;quick 0 123;", 30, 1);
        refusedText("room 1 2 3;room 4 5 6;quick 0 12;out 1 2", 40, 2);
        refusedText("out 1 2 3;wall 0 7;room 4 5 6;room 4 10 6;", 37, 3);
        refusedText("out 1 2 3;out 1;", 10, 4);
        refusedText("room 1 2 3;plain 0 4;out 1 2 3 4 5 6 7 8 9;", 41, 5);
        refusedText("room 1 2 3;plain 1 4;wall 0 5;", 30, 6);
    }

    private static void questions() {
        quiet(Twins.RICH, "rule 4", "room 0 0", "room 5 7", "wall 4", "outside 7", "fault", "torn", "count 5", "runs 60 0", "runs 60 1",
            "runs 60 2", "runs 60 3", "runs 60 4", "ahead 0 60 0", "ahead 5 60 1", "cold 0 0", "cold 5 99", "again", "need 0 60 0",
            "need 0 60 99", "need 5 1 5", "kind 0 60 0", "kind 5 60 1", "swap 60 0", "swap 60 1", "seal 60 0", "seal 60 1", "spare 60 0 0",
            "spare 60 0 1", "luck 5 0 8 20 0", "luck 5 5 8 0 1", "mean 5 8 0", "mean 5 8 1", "kinds 0", "kinds 5", "lets 0", "lets 4", "ask 0 0",
            "ask 4 1", "drift 7 60 0", "drift -7 60 1", "hours 0", "end 17", "forget 2");
        quiet(Twins.FULL, "runs 60 0", "ahead 0 60 0", "again", "luck 5 0 8 20 0", "mean 5 8 0", "drift 7 60 0", "lets 0", "ask 0 0", "hours 0");
        quiet(Twins.NEW, "runs 60 0", "again", "mean 5 8 0", "swap 60 0", "seal 60 0", "spare 60 0 0", "hours 0", "end 0", "forget 0", "text");
    }

    /** The states are rich only if what is seen in them is so: else a change of it could not be told. */
    private static void seenIsSo() {
        if (Twins.in(Twins.RICH).call("kinds", 0) == 0) fail("what is seen in the rich state is not so");
        if (Twins.in(Twins.FULL).call("kinds", 0) == 0) fail("what is seen in the full state is not so");
    }

    public static void main(String[] args) {
        seenIsSo();
        states();
        machine();
        texts();
        questions();
        System.out.println(wrong == 0 ? asked + " calls change nothing" : wrong + " calls are not as told");
        if (wrong != 0) System.exit(1);
    }
}
