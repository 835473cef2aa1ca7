import java.util.NoSuchElementException;

/** Promises 15 to 27: what can be asked of the flat. */
public final class QuestionsTest {
    private static final int LEAST = Integer.MIN_VALUE;
    private static final int GREATEST = Integer.MAX_VALUE;
    private static final Class<IndexOutOfBoundsException> NO_INDEX = IndexOutOfBoundsException.class;
    private static final Class<IllegalArgumentException> BAD = IllegalArgumentException.class;
    private static final Class<NoSuchElementException> NO_ELEMENT = NoSuchElementException.class;

    public static void main(String[] args) {
        promise15StakeAt();
        promise16PostOf();
        promise17CamelOf();
        promise18DrawnAt();
        promise19WrongBy();
        promise20Seems();
        promise20And21WithinTheFlat();
        promise20To24NoSuch();
        promise22Shimmers();
        promise23BestPost();
        promise23Clamped();
        promise24ClearIn();
        promise25HeatIn();
        promise26LostIn();
        promise27Nearest();
        Check.end();
    }

    private static void promise15StakeAt() {
        MirageSurvey x = new MirageSurvey();
        Check.fails("stakeAt(0) of none", NO_INDEX, () -> x.stakeAt(0));
        x.stake(7);
        x.stake(99);
        Check.is("stakeAt(0)", x.stakeAt(0), 7);
        Check.is("stakeAt(1)", x.stakeAt(1), 99);
        for (int bad : new int[] {-1, 2, LEAST, GREATEST}) {
            Check.fails("stakeAt(" + bad + ")", NO_INDEX, () -> x.stakeAt(bad));
        }
    }

    private static void promise16PostOf() {
        MirageSurvey x = new MirageSurvey();
        Check.fails("postOf(0) of none", NO_INDEX, () -> x.postOf(0, true));
        x.post(7, 9);
        x.post(99, 1);
        Check.is("place 0", x.postOf(0, false), 7);
        Check.is("height 0", x.postOf(0, true), 9);
        Check.is("place 1", x.postOf(1, false), 99);
        Check.is("height 1", x.postOf(1, true), 1);
        for (int bad : new int[] {-1, 2, LEAST, GREATEST}) {
            Check.fails("postOf(" + bad + ")", NO_INDEX, () -> x.postOf(bad, false));
        }
    }

    private static void promise17CamelOf() {
        MirageSurvey x = new MirageSurvey();
        Check.fails("camelOf(0, 9) of none", NO_INDEX, () -> x.camelOf(0, 9));
        x.camel(40);
        x.camel(44);
        x.post(44, 1);
        x.tie(1);
        x.hours(6);
        x.drink(1);
        x.heat(9);
        x.hours(8);
        int[][] due = {{64, 20, 0, 1, 0}, {44, 20, 1, 1, 1}};
        x.hours(10);
        for (int camel = 0; camel < 2; camel++) {
            for (int what = 1; what < 5; what++) {
                Check.is("camelOf(" + camel + ", " + what + ")", x.camelOf(camel, what), due[camel][what]);
            }
        }
        Check.is("place of the tied one", x.camelOf(1, 0), 44);
        for (int bad : new int[] {-1, 5, LEAST, GREATEST}) {
            Check.fails("camelOf(0, " + bad + ")", BAD, () -> x.camelOf(0, bad));
            Check.fails("camelOf(" + bad + ", 0)", NO_INDEX, () -> x.camelOf(bad, 0));
            Check.fails("camelOf(" + bad + ", " + bad + ")", NO_INDEX, () -> x.camelOf(bad, bad));
        }
        Check.fails("camelOf(2, 0)", NO_INDEX, () -> x.camelOf(2, 0));
    }

    private static void promise18DrawnAt() {
        MirageSurvey x = new MirageSurvey();
        x.stake(30);
        Check.fails("drawnAt without a sheet", NO_INDEX, () -> x.drawnAt(0, 0));
        x.sheet();
        x.sheet();
        x.post(30, 1);
        Check.fails("not drawn", NO_ELEMENT, () -> x.drawnAt(0, 1));
        x.sight(0, 0, 1);
        Check.is("drawn", x.drawnAt(0, 1), 30);
        Check.fails("not drawn on the other sheet", NO_ELEMENT, () -> x.drawnAt(0, 0));
        for (int bad : new int[] {-1, 2, 10, LEAST, GREATEST}) {
            Check.fails("drawnAt(" + bad + ", 0)", NO_INDEX, () -> x.drawnAt(bad, 0));
            Check.fails("drawnAt(0, " + bad + ")", NO_INDEX, () -> x.drawnAt(0, bad));
        }
        Check.fails("drawnAt(1, 0)", NO_INDEX, () -> x.drawnAt(1, 0));
        x.erase(0, 1);
        Check.fails("erased", NO_ELEMENT, () -> x.drawnAt(0, 1));
    }

    private static void promise19WrongBy() {
        MirageSurvey x = new MirageSurvey();
        Check.fails("wrongBy of no sheet", NO_INDEX, () -> x.wrongBy(0));
        x.sheet();
        x.sheet();
        Check.is("an empty sheet", x.wrongBy(0), 0);
        x.stake(90);
        x.stake(10);
        x.stake(50);
        x.post(50, 9);
        x.hours(5);
        x.sight(0, 0, 0);
        x.sight(1, 0, 0);
        Check.is("3 too far both ways", x.wrongBy(0), 6);
        x.sight(2, 0, 0);
        Check.is("and 0", x.wrongBy(0), 6);
        Check.is("the other sheet", x.wrongBy(1), 0);
        for (int bad : new int[] {-1, 2, LEAST, GREATEST}) {
            Check.fails("wrongBy(" + bad + ")", NO_INDEX, () -> x.wrongBy(bad));
        }
    }

    private static void seemBoth(MirageSurvey x, int stake, int post, int due) {
        Check.is("seems(" + stake + ", " + post + ") in hour " + x.account(0), x.seems(stake, post), due);
        Check.is("seemsAgain(" + stake + ", " + post + ") in hour " + x.account(0), x.seemsAgain(stake, post), due);
    }

    private static void promise20Seems() {
        MirageSurvey x = new MirageSurvey();
        x.stake(20);
        x.stake(45);
        x.stake(70);
        x.post(45, 1);
        x.heat(6);
        seemBoth(x, 0, 0, 20);
        seemBoth(x, 2, 0, 70);
        x.hours(1);
        seemBoth(x, 2, 0, 70);
        x.hours(1);
        seemBoth(x, 0, 0, 19);
        seemBoth(x, 1, 0, 45);
        seemBoth(x, 2, 0, 71);
        x.hours(9);
        seemBoth(x, 0, 0, 15);
        seemBoth(x, 2, 0, 75);
        x.hours(1);
        seemBoth(x, 0, 0, 26);
        seemBoth(x, 1, 0, 45);
        seemBoth(x, 2, 0, 64);
        x.hours(11);
        seemBoth(x, 2, 0, 70);
        x.hours(1);
        seemBoth(x, 2, 0, 70);
        x.hours(2);
        seemBoth(x, 2, 0, 71);
    }

    private static void promise20And21WithinTheFlat() {
        MirageSurvey x = new MirageSurvey();
        x.stake(1);
        x.stake(97);
        x.stake(99);
        x.stake(0);
        x.post(50, 9);
        x.post(0, 9);
        x.post(99, 9);
        x.heat(9);
        x.hours(11);
        seemBoth(x, 0, 0, 0);
        seemBoth(x, 1, 0, 99);
        seemBoth(x, 2, 1, 99);
        seemBoth(x, 3, 2, 0);
        seemBoth(x, 2, 2, 99);
        x.hours(1);
        seemBoth(x, 2, 1, 99 - 35);
        seemBoth(x, 3, 2, 35);
        seemBoth(x, 3, 1, 0);
    }

    private static void promise20To24NoSuch() {
        MirageSurvey x = new MirageSurvey();
        x.stake(50);
        x.post(50, 1);
        for (int bad : new int[] {-1, 1, LEAST, GREATEST}) {
            Check.fails("seems(" + bad + ", 0)", NO_INDEX, () -> x.seems(bad, 0));
            Check.fails("seems(0, " + bad + ")", NO_INDEX, () -> x.seems(0, bad));
            Check.fails("seemsAgain(" + bad + ", 0)", NO_INDEX, () -> x.seemsAgain(bad, 0));
            Check.fails("seemsAgain(0, " + bad + ")", NO_INDEX, () -> x.seemsAgain(0, bad));
            Check.fails("shimmers(" + bad + ", 0)", NO_INDEX, () -> x.shimmers(bad, 0));
            Check.fails("shimmers(0, " + bad + ")", NO_INDEX, () -> x.shimmers(0, bad));
            Check.fails("clearIn(" + bad + ", 0)", NO_INDEX, () -> x.clearIn(bad, 0));
            Check.fails("clearIn(0, " + bad + ")", NO_INDEX, () -> x.clearIn(0, bad));
            Check.fails("bestPost(" + bad + ")", NO_INDEX, () -> x.bestPost(bad));
        }
    }

    private static void promise22Shimmers() {
        MirageSurvey x = new MirageSurvey();
        x.stake(50);
        x.post(0, 5);
        x.post(1, 4);
        x.post(99, 5);
        x.post(50, 1);
        x.heat(4);
        x.hours(3);
        Check.is("heat 2, 50 away, 10 is not more than 10", x.shimmers(0, 0), false);
        Check.is("heat 2, 49 away, 9.8 is 9 and more than 8", x.shimmers(0, 1), true);
        x.heat(5);
        Check.is("heat 2 still", x.account(2), 2);
        Check.is("heat 2, 49 away, height 5", x.shimmers(0, 2), false);
        x.heat(6);
        Check.is("heat 3, 50 away, 15 is more than 10", x.shimmers(0, 0), true);
        Check.is("no shimmer at the post", x.shimmers(0, 3), false);
        x.hours(21);
        Check.is("no shimmer at midnight", x.shimmers(0, 0), false);
    }

    private static void promise23BestPost() {
        MirageSurvey x = new MirageSurvey();
        x.stake(50);
        Check.fails("bestPost without posts", NO_ELEMENT, () -> x.bestPost(0));
        x.post(20, 1);
        x.post(15, 9);
        x.hours(6);
        Check.is("what shimmers is left out", x.bestPost(0), 1);
        x.post(70, 5);
        Check.is("the nearest seeming", x.bestPost(0), 2);
        x.post(35, 5);
        Check.is("nearer still", x.bestPost(0), 3);
        x.undo();
        x.post(71, 6);
        Check.is("of several the highest one", x.bestPost(0), 3);
        x.undo();
        x.post(71, 5);
        Check.is("of these the lowest number", x.bestPost(0), 2);
        MirageSurvey y = new MirageSurvey();
        y.stake(50);
        y.post(0, 1);
        Check.is("at midnight", y.bestPost(0), 0);
        y.hours(6);
        Check.fails("all shimmers", NO_ELEMENT, () -> y.bestPost(0));
    }

    private static void promise23Clamped() {
        MirageSurvey x = new MirageSurvey();
        x.stake(99);
        x.post(49, 8);
        x.post(98, 1);
        x.hours(3);
        Check.is("it seems at 99 from both, the higher one counts", x.bestPost(0), 0);
    }

    private static void promise24ClearIn() {
        MirageSurvey x = new MirageSurvey();
        x.stake(90);
        x.post(0, 2);
        Check.is("clear now", x.clearIn(0, 0), 0);
        x.hours(2);
        Check.is("heat 1, 90 away, 9 is more than 4", x.clearIn(0, 0), 21);
        x.heat(9);
        Check.is("heat 3", x.clearIn(0, 0), 22);
        x.hours(10);
        Check.is("at noon", x.clearIn(0, 0), 12);
        x.hours(11);
        Check.is("an hour ahead of midnight", x.clearIn(0, 0), 1);
        x.hours(2);
        Check.is("an hour after midnight", x.clearIn(0, 0), 23);
    }

    private static void promise25HeatIn() {
        MirageSurvey x = new MirageSurvey();
        int[] due = {0, 0, 1, 2, 3, 4, 5, 5, 6, 7, 8, 9, 10, 9, 8, 7, 6, 5, 5, 4, 3, 2, 1, 0};
        for (int hours = 0; hours < 48; hours++) {
            Check.is("heatIn(" + hours + ")", x.heatIn(hours), due[hours % 24]);
        }
        x.hours(15);
        for (int hours = 0; hours < 48; hours++) {
            Check.is("heatIn(" + hours + ") from hour 15", x.heatIn(hours), due[(15 + hours) % 24]);
        }
        x.heat(9);
        Check.is("heatIn(0) of heat 9", x.heatIn(0), 13);
        Check.is("heatIn(21) of heat 9", x.heatIn(21), 18);
        for (int bad : new int[] {-1, 48, LEAST, GREATEST}) {
            Check.fails("heatIn(" + bad + ")", BAD, () -> x.heatIn(bad));
        }
    }

    private static void promise26LostIn() {
        MirageSurvey x = new MirageSurvey();
        Check.fails("lostIn of none", NO_INDEX, () -> x.lostIn(0));
        x.camel(50);
        x.heat(9);
        Check.is("of heat 9", x.lostIn(0), 12);
        x.hours(11);
        Check.is("an hour ahead", x.lostIn(0), 1);
        x.hours(1);
        Check.is("lost now", x.lostIn(0), 0);
        x.heat(0);
        Check.is("lost now, without heat", x.lostIn(0), 0);
        x.camel(50);
        Check.fails("without heat", NO_ELEMENT, () -> x.lostIn(1));
        for (int bad : new int[] {-1, 2, LEAST, GREATEST}) {
            Check.fails("lostIn(" + bad + ")", NO_INDEX, () -> x.lostIn(bad));
        }
        // A day of heat 3 makes thirstier by 9 in its hours 8 to 16, so the third day's hour 9 is needed.
        MirageSurvey y = new MirageSurvey();
        y.heat(3);
        y.camel(50);
        y.hours(9);
        Check.is("thirst after 9 hours", y.camelOf(0, 1), 1);
        Check.fails("not within 48 hours", NO_ELEMENT, () -> y.lostIn(0));
        y.hours(1);
        Check.is("in just 48 hours", y.lostIn(0), 48);
        Check.is("none is lost in 47", y.hours(47), 0);
        Check.is("in the last one", y.hours(1), 1);
    }

    private static void promise27Nearest() {
        MirageSurvey x = new MirageSurvey();
        Check.fails("nearest(100) of none", BAD, () -> x.nearest(100));
        Check.fails("nearest(0) of none", NO_ELEMENT, () -> x.nearest(0));
        x.camel(40);
        x.camel(60);
        x.camel(60);
        Check.is("nearest(49)", x.nearest(49), 0);
        Check.is("nearest(51), the lowest of two", x.nearest(51), 1);
        Check.is("nearest(50), the lowest of all", x.nearest(50), 0);
        x.post(60, 1);
        x.post(40, 1);
        x.tie(0);
        x.tie(1);
        x.tie(2);
        x.hours(8);
        x.drink(0);
        Check.is("the thirstier one", x.nearest(50), 1);
        x.drink(1);
        Check.is("the thirstiest one", x.nearest(50), 2);
        Check.is("nearest(0)", x.nearest(0), 0);
        Check.is("nearest(99)", x.nearest(99), 2);
        x.heat(9);
        x.hours(48);
        Check.is("a lost one", x.nearest(0), 0);
        for (int bad : new int[] {-1, 100, LEAST, GREATEST}) {
            Check.fails("nearest(" + bad + ")", BAD, () -> x.nearest(bad));
        }
    }
}
