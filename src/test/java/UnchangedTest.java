import java.util.NoSuchElementException;
import java.util.function.Consumer;

/** "A call that throws an exception leaves the state unchanged": each exception that a promise names, in a rich state. */
public final class UnchangedTest {
    private static final Class<UnsupportedOperationException> REFUSED = UnsupportedOperationException.class;
    private static final Class<IndexOutOfBoundsException> NO_INDEX = IndexOutOfBoundsException.class;
    private static final Class<NoSuchElementException> NO_ELEMENT = NoSuchElementException.class;
    private static final Class<IllegalArgumentException> BAD = IllegalArgumentException.class;
    private static final Class<IllegalStateException> STATE = IllegalStateException.class;

    /** The text that stands in the buffer of a prepared object: its last command wants its end. */
    private static final String BEGUN = "w1;w";
    private static final String FULL = "w1;w1;w1;w1;w1;w1;w1;w1;w1;w1;w1;w1;w1;w1;w1;w1;w1;w1;w1;w1;";

    public static void main(String[] args) {
        refusedChanges();
        refusedWithoutRoom();
        refusedWithoutWater();
        indices();
        elements();
        arguments();
        states();
        texts();
        theRefusedCommandsEach();
        Check.end();
    }

    /**
     * At noon of a hot day: stakes 0 to 3 at 50, 60, 99 and 20, the last one drawn nowhere; post 0 at 50 is high,
     * post 1 at 0 is low. Camel 0 is lost, camel 1 tied, camel 2 thirsty and far from posts, camel 3 not thirsty.
     */
    private static MirageSurvey rich() {
        MirageSurvey x = new MirageSurvey();
        x.post(50, 9);
        x.post(0, 1);
        x.sheet();
        x.sheet();
        x.stake(50);
        x.stake(60);
        x.stake(99);
        x.stake(20);
        x.heat(9);
        x.camel(50);
        x.hours(12);
        x.camel(52);
        x.tie(1);
        x.camel(20);
        x.save();
        x.hours(1);
        x.camel(85);
        x.heat(8);
        x.sight(0, 0, 0);
        x.sight(1, 0, 0);
        x.sight(1, 0, 1);
        x.heat(9);
        x.water(7);
        x.line(0);
        Check.answer(() -> x.tie(7));
        Check.commands(x, "x");
        Check.append(x, BEGUN);
        return x;
    }

    /** As many stakes, posts, sheets and camels as there can be, and 160 cups of water. */
    private static MirageSurvey crowded() {
        MirageSurvey x = rich();
        for (int place = 70; x.account(4) < 10; place++) {
            x.stake(place);
        }
        x.post(1, 1);
        x.post(2, 1);
        x.sheet();
        x.camel(0);
        x.camel(99);
        x.water(93);
        return x;
    }

    /** Camel 0 wants 9 cups, and 7 are left. */
    private static MirageSurvey dry() {
        MirageSurvey x = new MirageSurvey();
        x.heat(9);
        x.camel(50);
        for (int day = 0; day < 7; day++) {
            x.hours(11);
            x.drink(0);
            x.heat(0);
            x.hours(13);
            x.heat(9);
        }
        x.water(3);
        x.heat(8);
        x.hours(12);
        return x;
    }

    private interface Maker {
        MirageSurvey make();
    }

    /** A text that is begun shows by what it goes on to be whether the buffer is still the same. */
    private static void sameForEver(String what, MirageSurvey x, MirageSurvey y) {
        Check.is(what + " leaves the state", Look.allButReason(x), Look.allButReason(y));
        if (x.account(16) > 0 && x.account(16) < 60) {
            Check.append(x, "2");
            Check.append(y, "2");
        }
        Check.is(what + " leaves the text", Check.answer(x::commands), Check.answer(y::commands));
        Check.is(what + " leaves what the text does", Look.allButReason(x), Look.allButReason(y));
        for (int step = 0; step < 9; step++) {
            Check.is(what + " leaves the changes", Check.answer(x::undo), Check.answer(y::undo));
            Check.is(what + " leaves what was before change " + step, Look.allButReason(x), Look.allButReason(y));
        }
        Check.is(what + " leaves the snapshot", Check.answer(x::restore), Check.answer(y::restore));
        Check.is(what + " leaves what was saved", Look.allButReason(x), Look.allButReason(y));
    }

    private static void refused(Maker maker, String what, int kind, int detail, Consumer<MirageSurvey> call) {
        MirageSurvey x = maker.make();
        Check.refused(x, what, kind, detail, () -> {
            call.accept(x);
            return "an answer";
        });
        sameForEver(what, x, maker.make());
    }

    private static void thrown(String what, Class<? extends RuntimeException> kind, Consumer<MirageSurvey> call) {
        thrown(UnchangedTest::rich, what, kind, call);
    }

    private static void thrown(Maker maker, String what, Class<? extends RuntimeException> kind,
            Consumer<MirageSurvey> call) {
        MirageSurvey x = maker.make();
        MirageSurvey y = maker.make();
        Check.fails(what, kind, () -> {
            call.accept(x);
            return "an answer";
        });
        Check.is(what + " leaves the reason", Look.reason(x), Look.reason(y));
        sameForEver(what, x, y);
    }

    private static void refusedChanges() {
        Maker rich = UnchangedTest::rich;
        refused(rich, "stake(100)", 1, 0, x -> x.stake(100));
        refused(rich, "stake(99)", 4, 2, x -> x.stake(99));
        refused(rich, "post(50, 0)", 1, 0, x -> x.post(50, 0));
        refused(rich, "post(-1, 1)", 1, 0, x -> x.post(-1, 1));
        refused(rich, "heat(10)", 1, 0, x -> x.heat(10));
        refused(rich, "sight(4, 0, 0)", 3, 4, x -> x.sight(4, 0, 0));
        refused(rich, "sight(0, 2, 0)", 3, 2, x -> x.sight(0, 2, 0));
        refused(rich, "sight(0, 0, 2)", 3, 2, x -> x.sight(0, 0, 2));
        refused(rich, "sight(1, 1, 0)", 5, 16, x -> x.sight(1, 1, 0));
        refused(rich, "erase(4, 0)", 3, 4, x -> x.erase(4, 0));
        refused(rich, "erase(0, 2)", 3, 2, x -> x.erase(0, 2));
        refused(rich, "erase(0, 1)", 6, 0, x -> x.erase(0, 1));
        refused(rich, "camel(100)", 1, 0, x -> x.camel(100));
        refused(rich, "bell(100)", 1, 0, x -> x.bell(100));
        refused(rich, "tie(4)", 3, 4, x -> x.tie(4));
        refused(rich, "tie(0)", 8, rich().camelOf(0, 0), x -> x.tie(0));
        refused(rich, "tie(1)", 7, 1, x -> x.tie(1));
        refused(rich, "tie(2)", 11, 23, x -> x.tie(2));
        refused(rich, "loose(4)", 3, 4, x -> x.loose(4));
        refused(rich, "loose(2)", 7, 2, x -> x.loose(2));
        refused(rich, "drink(4)", 3, 4, x -> x.drink(4));
        refused(rich, "drink(0)", 8, rich().camelOf(0, 0), x -> x.drink(0));
        refused(rich, "drink(3)", 10, 3, x -> x.drink(3));
        refused(rich, "water(0)", 1, 0, x -> x.water(0));
        refused(rich, "hours(49)", 1, 0, x -> x.hours(49));
    }

    private static void refusedWithoutRoom() {
        Maker crowded = UnchangedTest::crowded;
        refused(crowded, "an eleventh stake", 2, 10, x -> x.stake(1));
        refused(crowded, "a fifth post", 2, 4, x -> x.post(1, 1));
        refused(crowded, "a fourth sheet", 2, 3, MirageSurvey::sheet);
        refused(crowded, "a seventh camel", 2, 6, x -> x.camel(1));
        refused(crowded, "water(41)", 2, 200, x -> x.water(41));
    }

    private static void refusedWithoutWater() {
        Maker dry = UnchangedTest::dry;
        Check.is("3 more than 60 less 7 times 8 cups", dry().account(11), 7);
        Check.is("thirst", dry().camelOf(0, 1), 18);
        refused(dry, "drink(0)", 9, 2, x -> x.drink(0));
    }

    private static void indices() {
        thrown("stakeAt(4)", NO_INDEX, x -> x.stakeAt(4));
        thrown("postOf(2)", NO_INDEX, x -> x.postOf(2, true));
        thrown("camelOf(4, 0)", NO_INDEX, x -> x.camelOf(4, 0));
        thrown("drawnAt(4, 0)", NO_INDEX, x -> x.drawnAt(4, 0));
        thrown("drawnAt(0, 2)", NO_INDEX, x -> x.drawnAt(0, 2));
        thrown("wrongBy(2)", NO_INDEX, x -> x.wrongBy(2));
        thrown("seems(4, 0)", NO_INDEX, x -> x.seems(4, 0));
        thrown("seems(0, 2)", NO_INDEX, x -> x.seems(0, 2));
        thrown("seemsAgain(4, 0)", NO_INDEX, x -> x.seemsAgain(4, 0));
        thrown("seemsAgain(0, 2)", NO_INDEX, x -> x.seemsAgain(0, 2));
        thrown("shimmers(4, 0)", NO_INDEX, x -> x.shimmers(4, 0));
        thrown("shimmers(0, 2)", NO_INDEX, x -> x.shimmers(0, 2));
        thrown("bestPost(4)", NO_INDEX, x -> x.bestPost(4));
        thrown("clearIn(4, 0)", NO_INDEX, x -> x.clearIn(4, 0));
        thrown("clearIn(0, 2)", NO_INDEX, x -> x.clearIn(0, 2));
        thrown("lostIn(4)", NO_INDEX, x -> x.lostIn(4));
        thrown("line(2)", NO_INDEX, x -> x.line(2));
        thrown("line(-1)", NO_INDEX, x -> x.line(-1));
        thrown("character(-1)", NO_INDEX, x -> x.character(-1));
        thrown("character(99)", NO_INDEX, x -> x.character(99));
    }

    private static void elements() {
        thrown("drawnAt(0, 1)", NO_ELEMENT, x -> x.drawnAt(0, 1));
        thrown("bestPost(2)", NO_ELEMENT, x -> x.bestPost(2));
        thrown(UnchangedTest::cool, "lostIn(0)", NO_ELEMENT, x -> x.lostIn(0));
        thrown(MirageSurvey::new, "nearest(0)", NO_ELEMENT, x -> x.nearest(0));
        thrown(MirageSurvey::new, "reason(0)", NO_ELEMENT, x -> x.reason(0));
        thrown(MirageSurvey::new, "meanThirst()", ArithmeticException.class, MirageSurvey::meanThirst);
        thrown(MirageSurvey::new, "rightShare()", ArithmeticException.class, MirageSurvey::rightShare);
    }

    private static MirageSurvey cool() {
        MirageSurvey x = new MirageSurvey();
        x.camel(50);
        x.heat(2);
        return x;
    }

    private static void arguments() {
        thrown("camelOf(0, 5)", BAD, x -> x.camelOf(0, 5));
        thrown("camelOf(0, -1)", BAD, x -> x.camelOf(0, -1));
        thrown("heatIn(48)", BAD, x -> x.heatIn(48));
        thrown("nearest(100)", BAD, x -> x.nearest(100));
        thrown("reason(3)", BAD, x -> x.reason(3));
        thrown("account(17)", BAD, x -> x.account(17));
    }

    private static void states() {
        thrown(MirageSurvey::new, "undo()", STATE, MirageSurvey::undo);
        thrown(UnchangedTest::cool, "restore()", STATE, MirageSurvey::restore);
        thrown(UnchangedTest::brimful, "a 61st character", STATE, x -> x.append('1'));
    }

    private static MirageSurvey brimful() {
        MirageSurvey x = rich();
        Check.commands(x, "");
        Check.append(x, FULL);
        return x;
    }

    /** What commands does to the text and the fault position is stated otherwise; the rest stays. */
    private static void texts() {
        text("2;s0@0>0;w5;q", BAD, 16);
        text("2;s0@0>0;w5;", BAD, 16);
        text("2;t9;x", BAD, 9);
        text("2;s0@0>1;b50;e0/0;l1;t1;w0", REFUSED, -1);
        text("2;d2;e0/0;e0/0", REFUSED, -1);
    }

    /** The text begins with BEGUN, which stands in the buffer. */
    private static void text(String rest, Class<? extends RuntimeException> kind, int fault) {
        MirageSurvey x = rich();
        MirageSurvey y = rich();
        Check.fails(rest, kind, () -> run(x, rest));
        Check.is("the fault of " + rest, x.faultPosition(), fault);
        Check.is("the text after " + rest, x.account(16), 0);
        Check.is("the changes after " + rest, x.account(15), y.account(15));
        Check.is("the flat after " + rest, Look.flat(x), Look.flat(y));
        Check.is("the line after " + rest, Look.line(x), Look.line(y));
        if (kind == BAD) {
            Check.is("the reason after " + rest, Look.reason(x), Look.reason(y));
        }
        for (int step = 0; step < 9; step++) {
            Check.is("undo after " + rest, Check.answer(x::undo), Check.answer(y::undo));
            Check.is("before change " + step + " after " + rest, Look.flat(x), Look.flat(y));
        }
        Check.is("restore after " + rest, Check.answer(x::restore), Check.answer(y::restore));
        Check.is("what was saved after " + rest, Look.flat(x), Look.flat(y));
    }

    private static int run(MirageSurvey x, String text) {
        Check.append(x, text);
        return x.commands();
    }

    /** Each kind of command as the last one, refused: what came ahead of it is taken back, and its reason is kept. */
    private static void theRefusedCommandsEach() {
        command("s4@3>2", 3, 4);
        command("s0@3>2", 3, 3);
        command("s0@1>2", 3, 2);
        command("s2@1>1", 5, 15);
        command("e4/2", 3, 4);
        command("e0/2", 3, 2);
        command("e3/0", 6, 3);
        command("t4", 3, 4);
        command("t0", 8, rich().camelOf(0, 0));
        command("t1", 7, 1);
        command("t2", 11, 24);
        command("l4", 3, 4);
        command("l3", 7, 3);
        command("d4", 3, 4);
        command("d0", 8, rich().camelOf(0, 0));
        command("d2;d2", 10, 2);
        command("w0", 1, 0);
        command("w49", 1, 0);
        command("w99", 1, 0);
    }

    private static void command(String last, int kind, int detail) {
        MirageSurvey x = rich();
        MirageSurvey y = rich();
        Check.commands(x, "");
        String text = "w1;e0/0;" + last;
        Check.is(text, Check.commands(x, text), "UnsupportedOperationException");
        int index = last.indexOf(';') < 0 ? 2 : 3;
        Check.reason(x, text, kind, detail, index);
        Check.is("the flat after " + text, Look.flat(x), Look.flat(y));
    }
}
