/** Promises 34 to 39: accounts, undo and the snapshot. */
public final class AccountsTest {
    public static void main(String[] args) {
        promise34MeanThirst();
        promise35RightShare();
        promise36Account();
        promise37Undo();
        promise37UndoOfEach();
        promise37Stays();
        promise38Save();
        promise39Restore();
        promise39Forgets();
        promises37To39WithoutAny();
        Check.end();
    }

    private static void promise34MeanThirst() {
        MirageSurvey x = new MirageSurvey();
        Check.fails("meanThirst of none", ArithmeticException.class, x::meanThirst);
        x.camel(50);
        Check.is("mean of 0", x.meanThirst(), 0.0f);
        x.hours(6);
        Check.is("mean of 1", x.meanThirst(), 1.0f);
        x.camel(50);
        x.camel(50);
        Check.is("a third", x.meanThirst(), 1.0f / 3.0f);
        x.hours(1);
        Check.is("four thirds", x.meanThirst(), 4.0f / 3.0f);
    }

    private static void promise35RightShare() {
        MirageSurvey x = new MirageSurvey();
        Check.fails("rightShare of none", ArithmeticException.class, x::rightShare);
        x.stake(90);
        x.stake(50);
        x.sheet();
        x.sheet();
        x.sheet();
        x.post(50, 9);
        Check.fails("rightShare of nothing drawn", ArithmeticException.class, x::rightShare);
        x.sight(0, 0, 0);
        Check.is("all right", x.rightShare(), 1.0);
        x.hours(5);
        x.sight(0, 0, 0);
        Check.is("none right", x.rightShare(), 0.0);
        x.sight(0, 0, 2);
        x.sight(1, 0, 1);
        Check.is("a third right", x.rightShare(), 1.0 / 3.0);
        x.sight(1, 0, 2);
        Check.is("half right", x.rightShare(), 0.5);
        x.erase(1, 2);
        x.erase(1, 1);
        x.erase(0, 2);
        x.erase(0, 0);
        Check.fails("all erased", ArithmeticException.class, x::rightShare);
    }

    private static void accounts(MirageSurvey x, String when, int... due) {
        for (int what = 0; what < due.length; what++) {
            Check.is("account " + what + " " + when, x.account(what), due[what]);
        }
    }

    private static MirageSurvey full() {
        MirageSurvey x = new MirageSurvey();
        x.stake(30);
        x.stake(50);
        x.stake(70);
        x.post(50, 9);
        x.post(20, 9);
        x.sheet();
        x.camel(40);
        x.camel(52);
        x.camel(50);
        x.camel(99);
        x.tie(1);
        x.tie(2);
        x.hours(8);
        x.drink(1);
        x.drink(0);
        x.water(10);
        x.sight(0, 0, 0);
        x.sight(1, 0, 0);
        x.sight(1, 0, 0);
        x.heat(7);
        x.hours(24);
        x.append('w');
        return x;
    }

    private static void promise36Account() {
        MirageSurvey x = full();
        accounts(x, "of a full flat", 32, 8, 9, 7, 3, 2, 1, 2, 4, 2, 4, 66, 4, 21, 3, 8, 1);
        x.loose(2);
        Check.is("tied after loose", x.account(9), 1);
        for (int bad : new int[] {-1, 17, Integer.MIN_VALUE, Integer.MAX_VALUE}) {
            Check.fails("account(" + bad + ")", IllegalArgumentException.class, () -> x.account(bad));
        }
    }

    private static void promise37Undo() {
        MirageSurvey x = new MirageSurvey();
        for (int number = 1; number <= 12; number++) {
            x.water(number);
            Check.is("changes", x.account(15), Math.min(8, number));
        }
        int water = 60 + 78;
        for (int number = 12; number > 4; number--) {
            Check.is("undo", x.undo(), number - 5);
            water -= number;
            Check.is("water", x.account(11), water);
        }
        Check.fails("a ninth undo", IllegalStateException.class, x::undo);
        Check.is("what was before the latest 8", x.account(11), 70);
        x.water(1);
        x.water(2);
        Check.is("undo after others", x.undo(), 1);
        x.water(3);
        Check.is("undo", x.undo(), 1);
        Check.is("undo", x.undo(), 0);
        Check.is("water", x.account(11), 70);
    }

    private static void promise37UndoOfEach() {
        MirageSurvey x = full();
        x.append('1');
        Check.is("commands", Check.answer(x::commands), 1);
        Check.is("hour", x.account(0), 33);
        x.undo();
        accounts(x, "before commands", 32, 8, 9, 7, 3, 2, 1, 2, 4, 2, 4, 66, 4, 21, 3, 7);
        x.undo();
        accounts(x, "before hours", 8, 8, 9, 7, 3, 2, 1, 2, 4, 2, 0, 66, 4, 21, 3, 6);
        Check.is("thirst before hours", x.camelOf(3, 1) * 100 + x.camelOf(0, 1), 300);
        x.undo();
        accounts(x, "before heat", 8, 8, 6, 5, 3, 2, 1, 2, 4, 2, 0, 66, 4, 24, 3, 5);
        x.undo();
        x.undo();
        accounts(x, "before two sightings", 8, 8, 6, 5, 3, 2, 1, 1, 4, 2, 0, 66, 4, 24, 1, 3);
        Check.is("line before two sightings", Check.line(x, 0), "0@28-2");
        x.undo();
        x.undo();
        accounts(x, "before water", 8, 8, 6, 5, 3, 2, 1, 0, 4, 2, 0, 56, 4, 24, 0, 1);
        x.undo();
        accounts(x, "before drink", 8, 8, 6, 5, 3, 2, 1, 0, 4, 2, 0, 58, 2, 24, 0, 0);
        Check.is("cups before drink", x.camelOf(0, 4), 0);
        Check.is("thirst before drink", x.camelOf(0, 1), 3);
        x.bell(60);
        x.loose(1);
        x.tie(1);
        x.sight(0, 0, 0);
        x.erase(0, 0);
        x.undo();
        Check.is("before erase", x.drawnAt(0, 0), 28);
        x.undo();
        x.undo();
        Check.is("before tie", x.camelOf(1, 2), 0);
        x.undo();
        Check.is("before loose", x.camelOf(1, 2), 1);
        Check.is("after bell", x.camelOf(0, 0), 50);
        x.undo();
        Check.is("before bell", x.camelOf(0, 0), 40);
        x.stake(5);
        x.post(5, 5);
        x.sheet();
        x.camel(5);
        accounts(x, "after four", 8, 8, 6, 5, 4, 3, 2, 0, 5, 2, 0, 58, 2, 24, 0, 4);
        x.undo();
        accounts(x, "before camel", 8, 8, 6, 5, 4, 3, 2, 0, 4, 2, 0, 58, 2, 24, 0, 3);
        x.undo();
        accounts(x, "before sheet", 8, 8, 6, 5, 4, 3, 1, 0, 4, 2, 0, 58, 2, 24, 0, 2);
        x.undo();
        accounts(x, "before post", 8, 8, 6, 5, 4, 2, 1, 0, 4, 2, 0, 58, 2, 24, 0, 1);
        x.undo();
        accounts(x, "before four", 8, 8, 6, 5, 3, 2, 1, 0, 4, 2, 0, 58, 2, 24, 0, 0);
    }

    private static void promise37Stays() {
        MirageSurvey x = full();
        Check.fails("refused", UnsupportedOperationException.class, () -> x.stake(50));
        x.line(0);
        x.append('0');
        Check.fails("questions", IndexOutOfBoundsException.class, () -> x.seems(5, 5));
        Check.is("what is refused is no change", x.account(15), 8);
        Check.is("undo", x.undo(), 7);
        Check.is("the text stays", x.account(16), 2);
        Check.is("the reason stays", x.reason(0), 4);
        Check.is("the line stays", x.character(1), '@');
        Check.fails("a refused text", UnsupportedOperationException.class, x::commands);
        Check.is("a refused text is no change", x.account(15), 7);
        Check.commands(x, "w");
        x.undo();
        Check.is("the fault stays", x.faultPosition(), 1);
    }

    private static void promise38Save() {
        MirageSurvey x = full();
        Check.is("save", x.save(), 32);
        Check.is("save is no change", x.account(15), 8);
        x.hours(2);
        Check.is("save again", x.save(), 34);
        x.hours(2);
        x.heat(1);
        Check.is("the later snapshot", x.restore(), 34);
        accounts(x, "of the later snapshot", 34, 10, 11, 7, 3, 2, 1, 2, 4, 2, 4, 66, 4, 19, 3, 0, 1);
        x.hours(1);
        Check.is("undo after save and restore", x.undo(), 0);
    }

    private static void promise39Restore() {
        MirageSurvey x = full();
        x.save();
        x.stake(1);
        x.post(1, 1);
        x.sheet();
        x.sight(2, 0, 0);
        x.camel(9);
        x.loose(1);
        x.water(20);
        x.heat(3);
        x.hours(5);
        x.append('9');
        Check.is("restore", x.restore(), 32);
        accounts(x, "after restore", 32, 8, 9, 7, 3, 2, 1, 2, 4, 2, 4, 66, 4, 21, 3, 0, 2);
        x.erase(0, 0);
        Check.is("restore again", x.restore(), 32);
        Check.is("drawn again", x.drawnAt(0, 0), 28);
    }

    private static void promise39Forgets() {
        MirageSurvey x = new MirageSurvey();
        x.save();
        x.hours(3);
        x.hours(3);
        x.undo();
        Check.is("restore of an hour 0", x.restore(), 0);
        Check.fails("restore forgets", IllegalStateException.class, x::undo);
        x.water(5);
        Check.is("undo", x.undo(), 0);
        Check.is("water", x.account(11), 60);
    }

    private static void promises37To39WithoutAny() {
        MirageSurvey x = new MirageSurvey();
        Check.fails("undo without changes", IllegalStateException.class, x::undo);
        Check.fails("restore without snapshot", IllegalStateException.class, x::restore);
        x.water(1);
        Check.fails("restore without snapshot", IllegalStateException.class, x::restore);
        Check.is("a change after that", x.account(11), 61);
        Check.is("save", x.save(), 0);
    }
}
