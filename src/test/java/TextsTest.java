import java.util.NoSuchElementException;

/** Promises 28 to 33: texts, commands, reasons and the line. */
public final class TextsTest {
    private static final int LEAST = Integer.MIN_VALUE;
    private static final int GREATEST = Integer.MAX_VALUE;

    public static void main(String[] args) {
        promise28Append();
        promise29Each();
        promise29AllOrNone();
        promise29OneChange();
        promise29LongText();
        promise30Faults();
        promise30Latest();
        promise31Reason();
        promise31CommandIndex();
        promise32Line();
        promise32EdgesOfTheFlat();
        promise32LongLine();
        promise33Character();
        Check.end();
    }

    private static void promise28Append() {
        MirageSurvey x = new MirageSurvey();
        for (int length = 1; length <= 60; length++) {
            Check.is("append", x.append((char) (length * 1000)), length);
        }
        Check.fails("a 61st character", IllegalStateException.class, () -> x.append('s'));
        Check.is("characters", x.account(16), 60);
        Check.fails("a text without sense", IllegalArgumentException.class, x::commands);
        Check.is("characters after commands", x.account(16), 0);
        Check.is("append after commands", x.append('s'), 1);
    }

    private static MirageSurvey small() {
        MirageSurvey x = new MirageSurvey();
        x.stake(20);
        x.stake(40);
        x.post(30, 9);
        x.post(45, 9);
        x.sheet();
        x.sheet();
        x.camel(44);
        x.camel(50);
        return x;
    }

    private static void promise29Each() {
        MirageSurvey x = small();
        Check.is("sight", Check.commands(x, "s1@0>1"), 1);
        Check.is("sighted", x.drawnAt(1, 1), 40);
        Check.is("erase", Check.commands(x, "e1/1"), 1);
        Check.is("erased", x.account(7), 0);
        Check.is("sight from post 1", Check.commands(x, "s0@1>0;s0@1>1;s1@0>0"), 3);
        Check.is("erase on sheet 1", Check.commands(x, "e0/1"), 1);
        Check.is("erased there", Check.line(x, 0) + Check.line(x, 1), "0@20 1@40blank");
        x.undo();
        x.undo();
        Check.is("none is drawn", x.account(7) + x.account(14), 1);
        Check.is("bell with one digit", Check.commands(x, "b9"), 1);
        Check.is("too far", x.camelOf(0, 0), 44);
        Check.is("bell with two digits", Check.commands(x, "b40"), 1);
        Check.is("called", x.camelOf(0, 0) + 100 * x.camelOf(1, 0), 4040);
        Check.is("tie", Check.commands(x, "t1"), 1);
        Check.is("tied", x.camelOf(1, 2), 1);
        Check.is("loose", Check.commands(x, "l1"), 1);
        Check.is("loosened", x.camelOf(1, 2), 0);
        Check.is("hours with one digit", Check.commands(x, "w6"), 1);
        Check.is("hour 6", x.account(0), 6);
        Check.is("drink", Check.commands(x, "d0"), 1);
        Check.is("drunk", x.camelOf(0, 4), 1);
        Check.is("hours with two digits", Check.commands(x, "w10"), 1);
        Check.is("hour 16", x.account(0), 16);
        Check.is("a zero ahead", Check.commands(x, "w03;b07"), 2);
        Check.is("hour 19", x.account(0), 19);
        Check.is("many", Check.commands(x, "d1;w5;s0@1>0;s0@0>1;e0/0;w1"), 6);
        Check.is("hour 25", x.account(0), 25);
        Check.is("sightings", x.account(14), 3);
        Check.is("characters", x.account(16), 0);
    }

    private static void promise29AllOrNone() {
        MirageSurvey x = small();
        x.hours(6);
        int changes = x.account(15);
        Check.is("refused", Check.commands(x, "d0;w2;s0@0>0;b45;t0;t1;t1"), "UnsupportedOperationException");
        Check.reason(x, "tied already", 7, 1, 6);
        int[] due = {6, 6, 5, 5, 2, 2, 2, 0, 2, 0, 0, 60, 0, 25, 0, changes, 0};
        for (int what = 0; what < due.length; what++) {
            Check.is("account " + what + " after a refusal", x.account(what), due[what]);
        }
        Check.is("the camel's thirst", x.camelOf(0, 1), 1);
        Check.is("the camel's place", x.camelOf(1, 0), 50);
        Check.is("no fault", x.faultPosition(), -1);
        Check.is("w49", Check.commands(x, "w1;w49"), "UnsupportedOperationException");
        Check.reason(x, "w49", 1, 0, 1);
        Check.is("w00", Check.commands(x, "w00"), "UnsupportedOperationException");
        Check.reason(x, "w00", 1, 0, 0);
        Check.is("s9", Check.commands(x, "s9@9>9"), "UnsupportedOperationException");
        Check.reason(x, "s9", 3, 9, 0);
        Check.is("s0@5", Check.commands(x, "w1;s0@5>1"), "UnsupportedOperationException");
        Check.reason(x, "s0@5", 3, 5, 1);
        Check.is("s0@1>2", Check.commands(x, "s0@1>2"), "UnsupportedOperationException");
        Check.reason(x, "s0@1>2", 3, 2, 0);
        Check.is("e1/0", Check.commands(x, "e1/0"), "UnsupportedOperationException");
        Check.reason(x, "e1/0", 6, 1, 0);
    }

    private static void promise29OneChange() {
        MirageSurvey x = small();
        x.save();
        x.restore();
        Check.is("three commands", Check.commands(x, "w1;w2;t0"), 3);
        Check.is("one change", x.account(15), 1);
        Check.is("undo", x.undo(), 0);
        Check.is("the hour", x.account(0), 0);
        Check.is("none is tied", x.account(9), 0);
    }

    private static void promise29LongText() {
        MirageSurvey x = small();
        StringBuilder text = new StringBuilder("b40");
        for (int index = 0; index < 19; index++) {
            text.append(";w").append(index % 9 + 1);
        }
        Check.is("60 characters", text.length(), 60);
        Check.is("20 commands", Check.commands(x, text.toString()), 20);
        Check.is("the hours", x.account(0), 91);
    }

    private static void fault(String text, int due) {
        MirageSurvey x = small();
        Check.is("\"" + text + "\"", Check.commands(x, text), "IllegalArgumentException");
        Check.is("the fault of \"" + text + "\"", x.faultPosition(), due);
        Check.is("the hour after \"" + text + "\"", x.account(0), 0);
        Check.is("the characters after \"" + text + "\"", x.account(16), 0);
        Check.fails("no reason after \"" + text + "\"", NoSuchElementException.class, () -> x.reason(0));
    }

    private static void promise30Faults() {
        fault("", 0);
        fault(";", 0);
        fault(" ", 0);
        fault("x", 0);
        fault("W1", 0);
        fault("5", 0);
        fault("s", 1);
        fault("s0", 2);
        fault("s01", 2);
        fault("s0@", 3);
        fault("s@", 1);
        fault("s0/", 2);
        fault("s0@0", 4);
        fault("s0@0>", 5);
        fault("s0@00", 4);
        fault("s0@0>x", 5);
        fault("s0@0>00", 6);
        fault("e0@", 2);
        fault("e0/", 3);
        fault("e0/00", 4);
        fault("b", 1);
        fault("b;", 1);
        fault("b123", 3);
        fault("b1 ", 2);
        fault("b-1", 1);
        fault("t", 1);
        fault("t10", 2);
        fault("l11", 2);
        fault("d00", 2);
        fault("w", 1);
        fault("w100", 3);
        fault("w1;", 3);
        fault("w1;;w1", 3);
        fault("w1;w1;x", 6);
        fault("w1 w1", 2);
        fault("w1,w1", 2);
        fault("w:", 1);
        fault("w1/", 2);
        fault("w" + (char) 0x661, 1);
        fault("" + (char) ('w' + 256) + "1", 0);
        fault("w1" + (char) 0, 2);
    }

    private static void promise30Latest() {
        MirageSurvey x = small();
        Check.is("at first", x.faultPosition(), -1);
        Check.commands(x, "w1;q");
        Check.is("a fault", x.faultPosition(), 3);
        x.append('w');
        Check.is("stays while a text is made", x.faultPosition(), 3);
        x.append('1');
        Check.is("a good text", Check.answer(x::commands), 1);
        Check.is("no fault", x.faultPosition(), -1);
        Check.commands(x, "w1;w1w");
        Check.is("another fault", x.faultPosition(), 5);
        Check.commands(x, "l0");
        Check.is("none of a refused text", x.faultPosition(), -1);
    }

    private static void promise31Reason() {
        MirageSurvey x = new MirageSurvey();
        for (int bad : new int[] {-1, 3, LEAST, GREATEST}) {
            Check.fails("reason(" + bad + ") of none", IllegalArgumentException.class, () -> x.reason(bad));
        }
        for (int what = 0; what < 3; what++) {
            int asked = what;
            Check.fails("reason of none", NoSuchElementException.class, () -> x.reason(asked));
        }
        Check.refused(x, "tie(5)", 3, 5, () -> x.tie(5));
        x.camel(50);
        Check.reason(x, "stays after a change", 3, 5, 0);
        Check.answer(() -> x.stakeAt(4));
        Check.answer(() -> x.nearest(-4));
        Check.reason(x, "stays after other exceptions", 3, 5, 0);
        Check.refused(x, "tie(0)", 11, 0, () -> x.tie(0));
        for (int bad : new int[] {-1, 3, LEAST, GREATEST}) {
            Check.fails("reason(" + bad + ")", IllegalArgumentException.class, () -> x.reason(bad));
        }
        x.undo();
        Check.reason(x, "stays after undo", 11, 0, 0);
        x.save();
        x.restore();
        Check.reason(x, "stays after restore", 11, 0, 0);
    }

    private static void promise31CommandIndex() {
        MirageSurvey x = small();
        Check.commands(x, "w1;b50;l0");
        Check.reason(x, "the third command", 7, 0, 2);
        Check.refused(x, "another call", 7, 1, () -> x.loose(1));
        Check.commands(x, "w1;w1;w1;w1;e1/1");
        Check.reason(x, "the fifth command", 6, 1, 4);
        Check.commands(x, "w1;w1;w1;w1;w1");
        Check.reason(x, "stays after good commands", 6, 1, 4);
        Check.refused(x, "a call after them", 6, 0, () -> x.erase(0, 0));
    }

    private static void promise32Line() {
        MirageSurvey x = small();
        for (int bad : new int[] {-1, 2, LEAST, GREATEST}) {
            Check.fails("line(" + bad + ")", IndexOutOfBoundsException.class, () -> x.line(bad));
        }
        Check.is("blank", Check.line(x, 0), "blank");
        x.stake(5);
        x.stake(90);
        x.hours(3);
        x.sight(3, 0, 1);
        Check.is("more", Check.line(x, 1), "3@92+2");
        x.sight(1, 1, 1);
        Check.is("as it is", Check.line(x, 1), "1@40 3@92+2");
        x.sight(0, 1, 1);
        x.sight(2, 0, 1);
        Check.is("less", Check.line(x, 1), "0@19-1 1@40 2@4-1 3@92+2");
        Check.is("the other sheet", Check.line(x, 0), "blank");
        x.erase(0, 1);
        Check.is("erased", Check.line(x, 1), "1@40 2@4-1 3@92+2");
        x.erase(2, 1);
        x.hours(18);
        x.sight(3, 0, 1);
        Check.is("nearer", Check.line(x, 1), "1@40 3@88-2");
    }

    private static void promise32EdgesOfTheFlat() {
        MirageSurvey x = new MirageSurvey();
        x.sheet();
        x.post(50, 1);
        for (int place : new int[] {0, 9, 10, 99}) {
            x.sight(x.stake(place), 0, 0);
        }
        Check.is("drawn at 0", x.drawnAt(0, 0), 0);
        Check.is("four are drawn", x.account(7), 4);
        Check.is("line", Check.line(x, 0), "0@0 1@9 2@10 3@99");
        Check.is("erase at 0", x.erase(0, 0), 0);
        Check.is("line", Check.line(x, 0), "1@9 2@10 3@99");
    }

    /** As long as a line can be: what does not shimmer is bent by 3 at most. */
    private static void promise32LongLine() {
        MirageSurvey x = new MirageSurvey();
        x.sheet();
        x.heat(9);
        x.post(49, 9);
        for (int place : new int[] {39, 40, 41, 42, 43, 44, 45, 46, 55, 59}) {
            x.stake(place);
        }
        x.hours(12);
        for (int stake = 0; stake < 10; stake++) {
            x.sight(stake, 0, 0);
        }
        String due = "0@42+3 1@43+3 2@43+2 3@44+2 4@45+2 5@45+1 6@46+1 7@47+1 8@53-2 9@56-3";
        Check.is("a long line", Check.line(x, 0), due);
        Check.is("its last character", x.character(68), '3');
        Check.fails("behind it", IndexOutOfBoundsException.class, () -> x.character(69));
    }

    private static void promise33Character() {
        MirageSurvey x = small();
        for (int bad : new int[] {-1, 0, 1, LEAST, GREATEST}) {
            Check.fails("character(" + bad + ") at first", IndexOutOfBoundsException.class, () -> x.character(bad));
        }
        Check.is("line", x.line(1), 5);
        for (int index = 0; index < 5; index++) {
            Check.is("character", x.character(index), "blank".charAt(index));
        }
        for (int bad : new int[] {-1, 5, 79, LEAST, GREATEST}) {
            Check.fails("character(" + bad + ")", IndexOutOfBoundsException.class, () -> x.character(bad));
        }
        x.sight(1, 0, 1);
        Check.is("the line stays", x.character(4), 'k');
        Check.fails("line(2)", IndexOutOfBoundsException.class, () -> x.line(2));
        Check.is("the line stays after a throw", x.character(4), 'k');
        Check.is("a shorter line", x.line(1), 4);
        Check.fails("behind the shorter line", IndexOutOfBoundsException.class, () -> x.character(4));
        x.undo();
        Check.is("the line stays after undo", x.character(3), '0');
        x.save();
        x.restore();
        Check.is("the line stays after restore", x.character(0), '1');
    }
}
