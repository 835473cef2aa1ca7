/** Promises 1 to 14: a new object, and the calls that change the flat. */
public final class ChangesTest {
    public static void main(String[] args) {
        promise1NewObject();
        promise2Stake();
        promise3Post();
        promise4Sheet();
        promise5Heat();
        promise6Sight();
        promise6SightRefused();
        promise7Erase();
        promise8Camel();
        promise9Bell();
        promise9BellReach();
        promise10Tie();
        promise10TieLostBeforeTied();
        promise11Loose();
        promise12Drink();
        promise12DrinkRefused();
        promise13Water();
        promise14Hours();
        promise14Stray();
        promise14Lost();
        Check.end();
    }

    private static void promise1NewObject() {
        MirageSurvey x = new MirageSurvey();
        int[] due = {0, 0, 0, 5, 0, 0, 0, 0, 0, 0, 0, 60, 0, 30, 0, 0, 0};
        for (int what = 0; what < due.length; what++) {
            Check.is("new account " + what, x.account(what), due[what]);
        }
        Check.is("new fault", x.faultPosition(), -1);
    }

    private static void promise2Stake() {
        MirageSurvey x = new MirageSurvey();
        Check.refused(x, "stake(-1)", 1, 0, () -> x.stake(-1));
        Check.refused(x, "stake(100)", 1, 0, () -> x.stake(100));
        Check.refused(x, "stake(least)", 1, 0, () -> x.stake(Integer.MIN_VALUE));
        Check.refused(x, "stake(greatest)", 1, 0, () -> x.stake(Integer.MAX_VALUE));
        Check.is("stake(0)", x.stake(0), 0);
        Check.is("stake(99)", x.stake(99), 1);
        Check.refused(x, "stake(99) again", 4, 1, () -> x.stake(99));
        Check.refused(x, "stake(0) again", 4, 0, () -> x.stake(0));
        for (int number = 2; number < 10; number++) {
            Check.is("stake " + number, x.stake(number * 10), number);
        }
        Check.refused(x, "an eleventh stake", 2, 10, () -> x.stake(55));
        Check.refused(x, "an eleventh stake at a stake", 2, 10, () -> x.stake(99));
        Check.refused(x, "an eleventh stake outside", 1, 0, () -> x.stake(100));
        Check.is("stakes", x.account(4), 10);
    }

    private static void promise3Post() {
        MirageSurvey x = new MirageSurvey();
        int[][] bad = {{-1, 5}, {100, 5}, {5, 0}, {5, 10}, {Integer.MIN_VALUE, 1}, {1, Integer.MAX_VALUE}};
        for (int[] pair : bad) {
            Check.refused(x, "post(" + pair[0] + ", " + pair[1] + ")", 1, 0, () -> x.post(pair[0], pair[1]));
        }
        Check.is("post(0, 1)", x.post(0, 1), 0);
        Check.is("post(99, 9)", x.post(99, 9), 1);
        Check.is("a post at the place of a post", x.post(99, 4), 2);
        Check.is("post(5, 5)", x.post(5, 5), 3);
        Check.refused(x, "a fifth post", 2, 4, () -> x.post(7, 7));
        Check.refused(x, "a fifth post outside", 1, 0, () -> x.post(7, 10));
        Check.is("posts", x.account(5), 4);
    }

    private static void promise4Sheet() {
        MirageSurvey x = new MirageSurvey();
        for (int number = 0; number < 3; number++) {
            Check.is("sheet", x.sheet(), number);
            Check.is("an empty sheet", Check.line(x, number), "blank");
        }
        Check.refused(x, "a fourth sheet", 2, 3, x::sheet);
        Check.is("sheets", x.account(6), 3);
    }

    private static void promise5Heat() {
        MirageSurvey x = new MirageSurvey();
        x.hours(7);
        Check.is("heat(9)", x.heat(9), 10);
        Check.is("heat(0)", x.heat(0), 0);
        Check.is("heat of the day", x.account(3), 0);
        Check.refused(x, "heat(-1)", 1, 0, () -> x.heat(-1));
        Check.refused(x, "heat(10)", 1, 0, () -> x.heat(10));
        Check.is("heat of the day after a refusal", x.account(3), 0);
        x.hours(10);
        Check.is("heat(8) in hour 17", x.heat(8), 9);
        x.hours(7);
        Check.is("heat(9) at midnight", x.heat(9), 0);
        x.hours(12);
        Check.is("heat(9) at noon", x.heat(9), 18);
    }

    private static void promise6Sight() {
        MirageSurvey x = new MirageSurvey();
        x.stake(90);
        x.stake(10);
        x.post(40, 9);
        x.sheet();
        x.sheet();
        x.hours(3);
        Check.is("sight away", x.sight(0, 0, 0), 92);
        Check.is("sight away, below", x.sight(1, 0, 1), 9);
        Check.is("drawn", x.drawnAt(0, 0), 92);
        Check.fails("not on the other sheet", java.util.NoSuchElementException.class, () -> x.drawnAt(0, 1));
        x.hours(18);
        Check.is("sight nearer", x.sight(0, 0, 0), 88);
        Check.is("redrawn", x.drawnAt(0, 0), 88);
        Check.is("how many are drawn", x.account(7), 2);
        Check.is("sightings", x.account(14), 3);
        x.hours(3);
        Check.is("sight at midnight", x.sight(0, 0, 0), 90);
    }

    private static void promise6SightRefused() {
        MirageSurvey x = new MirageSurvey();
        Check.refused(x, "sight of no stake", 3, 7, () -> x.sight(7, 8, 9));
        x.stake(70);
        Check.refused(x, "sight from no post", 3, 8, () -> x.sight(0, 8, 9));
        x.post(21, 2);
        Check.refused(x, "sight for no sheet", 3, 0, () -> x.sight(0, 0, 0));
        x.sheet();
        Check.refused(x, "sight of stake -1", 3, -1, () -> x.sight(-1, -2, -3));
        Check.refused(x, "sight from post -2", 3, -2, () -> x.sight(0, -2, -3));
        Check.refused(x, "sight for sheet -3", 3, -3, () -> x.sight(0, 0, -3));
        Check.refused(x, "sight for the greatest sheet", 3, Integer.MAX_VALUE, () -> x.sight(0, 0, Integer.MAX_VALUE));
        Check.refused(x, "sight of the least stake", 3, Integer.MIN_VALUE, () -> x.sight(Integer.MIN_VALUE, 0, 0));
        x.heat(1);
        x.hours(11);
        Check.is("49 / 10 is rounded down to 4, no shimmer", x.sight(0, 0, 0), 70);
        x.hours(1);
        Check.refused(x, "sight of what shimmers by a little", 5, 1, () -> x.sight(0, 0, 0));
        x.heat(9);
        Check.refused(x, "sight of what shimmers", 5, 17, () -> x.sight(0, 0, 0));
        Check.is("still drawn", x.drawnAt(0, 0), 70);
        Check.is("sightings", x.account(14), 1);
    }

    private static void promise7Erase() {
        MirageSurvey x = new MirageSurvey();
        Check.refused(x, "erase no stake", 3, 4, () -> x.erase(4, 5));
        x.stake(50);
        x.stake(60);
        Check.refused(x, "erase on no sheet", 3, 5, () -> x.erase(1, 5));
        Check.refused(x, "erase stake -1", 3, -1, () -> x.erase(-1, -1));
        x.sheet();
        x.sheet();
        x.post(50, 1);
        Check.refused(x, "erase what is not drawn", 6, 1, () -> x.erase(1, 0));
        x.sight(1, 0, 1);
        Check.refused(x, "erase on the other sheet", 6, 1, () -> x.erase(1, 0));
        Check.is("erase", x.erase(1, 1), 60);
        Check.refused(x, "erase again", 6, 1, () -> x.erase(1, 1));
        Check.is("none is drawn", x.account(7), 0);
        Check.is("the sighting counts on", x.account(14), 1);
    }

    private static void promise8Camel() {
        MirageSurvey x = new MirageSurvey();
        Check.refused(x, "camel(-1)", 1, 0, () -> x.camel(-1));
        Check.refused(x, "camel(100)", 1, 0, () -> x.camel(100));
        Check.is("camel(0)", x.camel(0), 0);
        Check.is("camel(99)", x.camel(99), 1);
        for (int number = 2; number < 6; number++) {
            Check.is("camel", x.camel(30), number);
        }
        Check.refused(x, "a seventh camel", 2, 6, () -> x.camel(3));
        Check.refused(x, "a seventh camel outside", 1, 0, () -> x.camel(100));
        int[] due = {99, 0, 0, 0, 0};
        for (int what = 0; what < due.length; what++) {
            Check.is("new camel " + what, x.camelOf(1, what), due[what]);
        }
    }

    private static void promise9Bell() {
        MirageSurvey x = new MirageSurvey();
        Check.refused(x, "bell(-1)", 1, 0, () -> x.bell(-1));
        Check.refused(x, "bell(100)", 1, 0, () -> x.bell(100));
        Check.is("a bell for none", x.bell(50), 0);
        x.camel(45);
        x.camel(61);
        x.camel(50);
        x.camel(20);
        x.camel(81);
        x.post(48, 1);
        x.tie(0);
        Check.is("bell(50)", x.bell(50), 1);
        Check.is("a tied one stays", x.camelOf(0, 0), 45);
        Check.is("comes by 10 from above", x.camelOf(1, 0), 51);
        Check.is("just as far as it is heard", x.camelOf(3, 0), 30);
        Check.is("too far to hear", x.camelOf(4, 0), 81);
        Check.is("bell(45) counts the tied one", x.bell(45), 3);
        Check.is("from below", x.camelOf(3, 0), 40);
    }

    private static void promise9BellReach() {
        MirageSurvey x = new MirageSurvey();
        x.heat(9);
        x.camel(0);
        x.post(0, 1);
        x.tie(0);
        x.hours(12);
        Check.is("camel 0 is lost", x.camelOf(0, 3), 1);
        Check.is("heard", x.account(13), 12);
        x.camel(12);
        x.camel(13);
        x.camel(1);
        Check.is("bell in the heat", x.bell(0), 2);
        Check.is("12 away", x.camelOf(1, 0), 2);
        Check.is("13 away", x.camelOf(2, 0), 13);
        x.loose(0);
        Check.is("a lost one does not come", x.bell(1), 2);
        Check.is("the lost one", x.camelOf(0, 0), 0);
        Check.is("by 10", x.camelOf(2, 0), 3);
        Check.is("the lost one counts", x.bell(0), 4);
    }

    private static void promise10Tie() {
        MirageSurvey x = new MirageSurvey();
        Check.refused(x, "tie no camel", 3, 0, () -> x.tie(0));
        Check.refused(x, "tie camel -1", 3, -1, () -> x.tie(-1));
        x.camel(50);
        x.camel(60);
        x.camel(61);
        Check.refused(x, "tie without posts", 11, 0, () -> x.tie(0));
        x.post(55, 1);
        x.post(80, 1);
        Check.is("tie at 5 from a post above", x.tie(0), 1);
        Check.is("tie at 5 from a post below", x.tie(1), 2);
        Check.refused(x, "tie at 6", 11, 6, () -> x.tie(2));
        Check.refused(x, "tie again", 7, 1, () -> x.tie(1));
        Check.is("tied", x.camelOf(1, 2), 1);
        Check.is("not tied", x.camelOf(2, 2), 0);
    }

    private static void promise10TieLostBeforeTied() {
        MirageSurvey x = new MirageSurvey();
        x.heat(9);
        x.post(50, 1);
        x.camel(47);
        x.camel(90);
        x.tie(0);
        x.hours(48);
        Check.refused(x, "tie a tied lost camel", 8, 47, () -> x.tie(0));
        int place = x.camelOf(1, 0);
        Check.refused(x, "tie a lost camel that is far", 8, place, () -> x.tie(1));
    }

    private static void promise11Loose() {
        MirageSurvey x = new MirageSurvey();
        Check.refused(x, "loose no camel", 3, 2, () -> x.loose(2));
        x.camel(50);
        x.camel(50);
        Check.refused(x, "loose what is loose", 7, 1, () -> x.loose(1));
        x.post(50, 1);
        x.tie(0);
        x.tie(1);
        Check.is("loose", x.loose(0), 1);
        Check.refused(x, "loose again", 7, 0, () -> x.loose(0));
        x.heat(9);
        x.hours(48);
        Check.is("loose a lost one", x.loose(1), 0);
    }

    private static void promise12Drink() {
        MirageSurvey x = new MirageSurvey();
        x.camel(50);
        x.camel(50);
        x.hours(6);
        Check.is("thirst 1 takes a cup", x.drink(0), 59);
        x.hours(1);
        Check.is("thirst 2 takes a cup", x.drink(1), 58);
        x.hours(1);
        x.hours(1);
        Check.is("thirst 3", x.camelOf(0, 1), 3);
        Check.is("thirst 3 takes two cups", x.drink(0), 56);
        Check.is("not thirsty", x.camelOf(0, 1), 0);
        Check.is("cups of camel 0", x.camelOf(0, 4), 3);
        Check.is("cups of camel 1", x.camelOf(1, 4), 1);
        Check.is("cups of all", x.account(12), 4);
    }

    private static void promise12DrinkRefused() {
        MirageSurvey x = new MirageSurvey();
        Check.refused(x, "drink for no camel", 3, 0, () -> x.drink(0));
        x.camel(50);
        Check.refused(x, "drink without thirst", 10, 0, () -> x.drink(0));
        x.heat(9);
        for (int left = 52; left > 0; left -= 8) {
            x.hours(11);
            Check.is("thirst 16 takes 8 cups", x.drink(0), left);
            x.heat(0);
            x.hours(13);
            x.heat(9);
        }
        x.hours(11);
        Check.refused(x, "4 cups missing", 9, 4, () -> x.drink(0));
        Check.is("the water stays", x.account(11), 4);
        Check.is("the thirst stays", x.camelOf(0, 1), 16);
        x.water(3);
        Check.refused(x, "a cup missing", 9, 1, () -> x.drink(0));
        x.water(1);
        Check.is("just enough", x.drink(0), 0);
        Check.is("cups so far", x.camelOf(0, 4), 64);
        Check.refused(x, "not thirsty ahead of no water", 10, 0, () -> x.drink(0));
        x.hours(48);
        Check.refused(x, "lost ahead of no water", 8, x.camelOf(0, 0), () -> x.drink(0));
    }

    private static void promise13Water() {
        MirageSurvey x = new MirageSurvey();
        Check.refused(x, "water(0)", 1, 0, () -> x.water(0));
        Check.refused(x, "water(-1)", 1, 0, () -> x.water(-1));
        Check.refused(x, "water(101)", 1, 0, () -> x.water(101));
        Check.refused(x, "water(greatest)", 1, 0, () -> x.water(Integer.MAX_VALUE));
        Check.is("water(1)", x.water(1), 61);
        Check.is("water(100)", x.water(100), 161);
        Check.refused(x, "water(40)", 2, 200, () -> x.water(40));
        Check.is("water(39)", x.water(39), 200);
        Check.refused(x, "water(1) more", 2, 200, () -> x.water(1));
        Check.refused(x, "water(0) when full", 1, 0, () -> x.water(0));
    }

    private static void promise14Hours() {
        MirageSurvey x = new MirageSurvey();
        Check.refused(x, "hours(0)", 1, 0, () -> x.hours(0));
        Check.refused(x, "hours(49)", 1, 0, () -> x.hours(49));
        Check.refused(x, "hours(least)", 1, 0, () -> x.hours(Integer.MIN_VALUE));
        Check.refused(x, "hours(greatest)", 1, 0, () -> x.hours(Integer.MAX_VALUE));
        Check.is("hours(1)", x.hours(1), 0);
        Check.is("hours(48)", x.hours(48), 0);
        Check.is("the hour", x.account(0), 49);
        Check.is("the hour of the day", x.account(1), 1);
    }

    private static void promise14Stray() {
        MirageSurvey x = new MirageSurvey();
        x.heat(6);
        x.camel(50);
        x.camel(50);
        x.camel(98);
        x.camel(1);
        x.camel(40);
        x.post(40, 1);
        x.tie(4);
        x.hours(6);
        Check.is("no stray below heat 6", x.camelOf(0, 0), 50);
        x.hours(1);
        Check.is("even ones stray towards 99", x.camelOf(0, 0), 53);
        Check.is("odd ones stray towards 0", x.camelOf(1, 0), 47);
        Check.is("not beyond 99", x.camelOf(2, 0), 99);
        Check.is("not beyond 0", x.camelOf(3, 0), 0);
        Check.is("tied ones stay", x.camelOf(4, 0), 40);
        x.hours(1);
        Check.is("at 99", x.camelOf(2, 0), 99);
        Check.is("at 0", x.camelOf(3, 0), 0);
    }

    private static void promise14Lost() {
        MirageSurvey x = new MirageSurvey();
        x.heat(9);
        x.camel(20);
        x.post(20, 1);
        x.camel(20);
        x.tie(1);
        // The heat from hour 0 on is 0 1 3 4 6 7 9 10 12 13 15 16, so the thirst is 16 after 11 hours, then 20.
        Check.is("not lost within 11 hours", x.hours(11), 0);
        Check.is("thirst", x.camelOf(0, 1), 16);
        Check.is("strayed", x.camelOf(0, 0), 41);
        x.camel(70);
        Check.is("both are lost", x.hours(1), 2);
        Check.is("thirst stays at 20", x.camelOf(1, 1), 20);
        Check.is("no stray in the hour of the loss", x.camelOf(0, 0), 41);
        Check.is("a fresh one strays", x.camelOf(2, 0), 73);
        Check.is("lost ones are counted once", x.hours(1), 0);
        Check.is("a lost one does not stray", x.camelOf(0, 0), 41);
        Check.is("lost", x.account(10), 2);
    }
}
