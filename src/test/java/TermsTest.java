/** The boundary cases of "Terms" of the document, section by section, where no promise's own test has them. */
public final class TermsTest {
    private static final int NOON = 12;

    public static void main(String[] args) {
        hoursGoRound();
        hoursHeatOfEachHour();
        flatFirstAndLastPlace();
        stakesOnlyKeepEachOtherOff();
        postsShimmerAtTheLimit();
        postsBendFromAWholePlaceOn();
        postsBendByTheHourOfTheDay();
        postsAtTheEndsOfTheFlat();
        postsAtTheStake();
        sheetsAreApart();
        camelsStrayNotBeyond();
        camelsStrayFromHeat6On();
        camelsLostAt20Not19();
        camelsLostStay();
        bellReachAndWay();
        bellAtTheEndsOfTheFlat();
        bellOfTiedAndLost();
        waterByThirst();
        hourThirstByHeat();
        hourThirstUpTo20();
        hourUsesItsOwnHeat();
        hourByHourOrAtOnce();
        reasonsOfShimmering();
        changesCountOnce();
        changesThatAreNone();
        changesKeepWhatStays();
        Check.end();
    }

    private static void hoursGoRound() {
        MirageSurvey x = new MirageSurvey();
        int[][] due = {{23, 23, 23}, {1, 24, 0}, {1, 25, 1}, {22, 47, 23}, {1, 48, 0}, {48, 96, 0}, {13, 109, 13}};
        for (int[] row : due) {
            x.hours(row[0]);
            Check.is("the hour", x.account(0), row[1]);
            Check.is("the hour of the day in hour " + row[1], x.account(1), row[2]);
        }
    }

    private static void hoursHeatOfEachHour() {
        int[][] due = {
            {0, 0, 0, 0, 0, 0, 0, 0, 0, 0, 0, 0, 0},
            {0, 0, 0, 0, 0, 0, 1, 1, 1, 1, 1, 1, 2},
            {0, 0, 0, 1, 1, 1, 2, 2, 2, 3, 3, 3, 4},
            {0, 0, 1, 1, 2, 2, 3, 3, 4, 4, 5, 5, 6},
            {0, 0, 1, 2, 2, 3, 4, 4, 5, 6, 6, 7, 8},
            {0, 0, 1, 2, 3, 4, 5, 5, 6, 7, 8, 9, 10},
            {0, 1, 2, 3, 4, 5, 6, 7, 8, 9, 10, 11, 12},
            {0, 1, 2, 3, 4, 5, 7, 8, 9, 10, 11, 12, 14},
            {0, 1, 2, 4, 5, 6, 8, 9, 10, 12, 13, 14, 16},
            {0, 1, 3, 4, 6, 7, 9, 10, 12, 13, 15, 16, 18},
        };
        MirageSurvey x = new MirageSurvey();
        for (int hour = 0; hour < 49; hour++) {
            int ofDay = hour % 24;
            int column = ofDay <= NOON ? ofDay : 24 - ofDay;
            for (int heat = 0; heat <= 9; heat++) {
                Check.is("heat(" + heat + ") in hour " + hour, x.heat(heat), due[heat][column]);
                Check.is("the heat in hour " + hour, x.account(2), due[heat][column]);
                Check.is("the heat of the day", x.account(3), heat);
                Check.is("how far the bell is heard", x.account(13), 30 - due[heat][column]);
            }
            x.hours(1);
        }
    }

    private static void flatFirstAndLastPlace() {
        MirageSurvey x = new MirageSurvey();
        int number = 0;
        for (int place : new int[] {0, 99}) {
            Check.is("stake(" + place + ")", x.stake(place), number);
            Check.is("post(" + place + ", 9)", x.post(place, 9), number);
            Check.is("camel(" + place + ")", x.camel(place), number);
            Check.is("bell(" + place + ")", x.bell(place), 1);
            Check.is("nearest(" + place + ")", x.nearest(place), number);
            Check.is("the stake", x.stakeAt(number), place);
            Check.is("the post", x.postOf(number, false), place);
            Check.is("the camel", x.camelOf(number, 0), place);
            number++;
        }
    }

    private static void stakesOnlyKeepEachOtherOff() {
        MirageSurvey x = new MirageSurvey();
        x.post(50, 1);
        x.camel(60);
        Check.is("a stake at a post", x.stake(50), 0);
        Check.is("a stake at a camel", x.stake(60), 1);
        Check.is("a post at a stake", x.post(60, 1), 1);
        Check.is("a camel at a stake", x.camel(50), 1);
        x.stake(70);
        x.undo();
        Check.is("a stake where one was undone", x.stake(70), 2);
        x.sheet();
        x.hours(6);
        x.stake(35);
        x.post(30, 9);
        x.post(80, 9);
        Check.is("a stake that seems to be elsewhere", x.sight(0, 3, 0), 47);
        Check.is("a stake where another one seems to be", x.stake(47), 4);
        Check.refused(x, "a stake where one is", 4, 0, () -> x.stake(50));
    }

    /** The stake is at 0, so the post is as far as its place; {heat of the day, hour, far, height, shimmers}. */
    private static void postsShimmerAtTheLimit() {
        int[][] due = {
            {9, 12, 10, 9, 0}, {9, 12, 11, 9, 1}, {9, 12, 1, 1, 0}, {9, 12, 2, 1, 1}, {1, 6, 29, 1, 0},
            {1, 6, 30, 1, 1}, {1, 6, 49, 2, 0}, {1, 6, 50, 2, 1}, {1, 6, 99, 5, 0}, {1, 6, 99, 4, 1},
            {5, 6, 37, 9, 0}, {5, 6, 38, 9, 1}, {5, 0, 99, 1, 0}, {0, 12, 99, 1, 0}, {5, 13, 99, 9, 1},
        };
        for (int[] row : due) {
            MirageSurvey x = new MirageSurvey();
            x.stake(0);
            x.stake(99);
            x.post(row[2], row[3]);
            x.post(99 - row[2], row[3]);
            x.heat(row[0]);
            pass(x, row[1]);
            String what = "heat " + x.account(2) + ", " + row[2] + " away, height " + row[3];
            Check.is(what, x.shimmers(0, 0), row[4] == 1);
            Check.is(what + " from the other side", x.shimmers(1, 1), row[4] == 1);
            Check.is(what + ", in how many hours it is clear", x.clearIn(0, 0) == 0, row[4] == 0);
        }
    }

    private static void pass(MirageSurvey x, int hours) {
        if (hours > 0) {
            x.hours(hours);
        }
    }

    private static void seem(MirageSurvey x, int stake, int post, int due) {
        String what = "stake " + stake + " from post " + post + " in hour " + x.account(0);
        Check.is(what, x.seems(stake, post), due);
        Check.is(what + " again", x.seemsAgain(stake, post), due);
    }

    private static void postsBendFromAWholePlaceOn() {
        MirageSurvey x = new MirageSurvey();
        x.post(50, 9);
        for (int place : new int[] {52, 53, 48, 47, 55, 56, 45, 44}) {
            x.stake(place);
        }
        x.heat(9);
        x.hours(NOON);
        int[] due = {52, 52, 48, 48, 54, 54, 46, 46};
        for (int stake = 0; stake < due.length; stake++) {
            seem(x, stake, 0, due[stake]);
        }
    }

    private static void postsBendByTheHourOfTheDay() {
        MirageSurvey x = new MirageSurvey();
        x.post(20, 9);
        x.stake(80);
        x.heat(9);
        int[] due = {80, 81, 83, 84, 87, 88, 90, 92, 94, 95, 98, 99, 59, 61, 62, 65, 66, 68, 70, 72, 73, 76, 77, 79};
        for (int hour = 0; hour < 49; hour++) {
            seem(x, 0, 0, due[hour % 24]);
            x.hours(1);
        }
    }

    private static void postsAtTheEndsOfTheFlat() {
        MirageSurvey x = new MirageSurvey();
        x.post(50, 9);
        for (int place : new int[] {5, 4, 94, 95, 96, 6}) {
            x.stake(place);
        }
        // The heat is 5: who is 40 to 49 away is bent by 4, who is 50 away would be by 5.
        x.hours(6);
        int[] due = {1, 0, 98, 99, 99, 2};
        for (int stake = 0; stake < due.length; stake++) {
            seem(x, stake, 0, due[stake]);
        }
        MirageSurvey y = new MirageSurvey();
        y.sheet();
        y.post(38, 9);
        y.post(61, 9);
        y.stake(1);
        y.stake(98);
        y.stake(3);
        y.stake(96);
        y.hours(6);
        int[] drawn = {0, 99, 0, 99};
        for (int stake = 0; stake < drawn.length; stake++) {
            Check.is("drawn at the end of the flat", y.sight(stake, stake % 2, 0), drawn[stake]);
        }
        Check.is("by how much it is wrong", y.wrongBy(0), 8);
        Check.is("the line", Check.line(y, 0), "0@0-1 1@99+1 2@0-3 3@99+3");
    }

    private static void postsAtTheStake() {
        MirageSurvey x = new MirageSurvey();
        int number = 0;
        x.heat(9);
        for (int place : new int[] {0, 50, 99}) {
            x.stake(place);
            x.post(place, 1);
            number++;
        }
        for (int hour = 0; hour < 24; hour++) {
            for (int post = 0; post < number; post++) {
                seem(x, post, post, x.stakeAt(post));
                Check.is("it shimmers at the post", x.shimmers(post, post), false);
            }
            x.hours(1);
        }
    }

    private static void sheetsAreApart() {
        MirageSurvey x = new MirageSurvey();
        for (int sheet = 0; sheet < 3; sheet++) {
            x.sheet();
        }
        x.post(0, 9);
        x.post(99, 9);
        for (int stake = 0; stake < 10; stake++) {
            x.stake(stake * 11);
        }
        for (int stake = 0; stake < 10; stake++) {
            x.sight(stake, 0, stake % 3);
        }
        for (int stake = 0; stake < 10; stake++) {
            for (int sheet = 0; sheet < 3; sheet++) {
                int on = sheet;
                int at = stake;
                Object due = stake % 3 == sheet ? (Object) (stake * 11) : "NoSuchElementException";
                Check.is("stake " + stake + " on sheet " + sheet, Check.answer(() -> x.drawnAt(at, on)), due);
            }
        }
        Check.is("drawn", x.account(7), 10);
        Check.is("the last stake on the last sheet", x.sight(9, 1, 2), 99);
        Check.is("the first one there", x.sight(0, 1, 2), 0);
        Check.is("drawn", x.account(7), 12);
        Check.is("drawn again", x.sight(0, 0, 2), 0);
        Check.is("drawn as often as before", x.account(7), 12);
        Check.is("sightings", x.account(14), 13);
        Check.is("erased", x.erase(9, 2), 99);
        Check.is("on the other sheet it stays", x.drawnAt(9, 0), 99);
    }

    /** Camel 0 goes towards 99, camel 1 towards 0. */
    private static void camelsStrayNotBeyond() {
        int[][] due = {{95, 98}, {96, 99}, {97, 99}, {98, 99}, {99, 99}, {0, 3}};
        for (int[] row : due) {
            MirageSurvey x = new MirageSurvey();
            x.camel(row[0]);
            x.camel(99 - row[0]);
            x.hours(8);
            Check.is("no stray from " + row[0], x.camelOf(0, 0), row[0]);
            x.hours(1);
            Check.is("from " + row[0], x.camelOf(0, 0), row[1]);
            Check.is("from " + (99 - row[0]), x.camelOf(1, 0), 99 - row[1]);
        }
    }

    private static void camelsStrayFromHeat6On() {
        MirageSurvey x = new MirageSurvey();
        x.heat(3);
        for (int camel = 0; camel < 6; camel++) {
            x.camel(50);
        }
        x.hours(12);
        Check.is("heat 5 was not enough", x.camelOf(0, 0), 50);
        x.hours(1);
        for (int camel = 0; camel < 6; camel++) {
            Check.is("heat 6 is", x.camelOf(camel, 0), camel % 2 == 0 ? 53 : 47);
        }
        x.hours(11);
        Check.is("heat 5 is not", x.camelOf(5, 0), 47);
    }

    /** A camel that comes in hour 7 of a hot day has a thirst of 19 after hour 12: 2, 3, 3, 3, 4 and 4. */
    private static MirageSurvey thirsty19() {
        MirageSurvey x = new MirageSurvey();
        x.heat(9);
        x.hours(7);
        x.camel(20);
        x.post(41, 9);
        x.hours(6);
        return x;
    }

    private static void camelsLostAt20Not19() {
        MirageSurvey x = thirsty19();
        Check.is("thirst", x.camelOf(0, 1), 19);
        Check.is("not lost", x.camelOf(0, 3) + x.account(10), 0);
        Check.is("it strayed in each hour", x.camelOf(0, 0), 38);
        Check.is("lost in an hour", x.lostIn(0), 1);
        Check.is("it hears the bell", x.bell(43), 1);
        Check.is("it came", x.camelOf(0, 0), 43);
        Check.is("it is tied", x.tie(0), 1);
        Check.is("it is let loose", x.loose(0), 0);
        Check.is("10 cups for 19", x.drink(0), 50);
        x.undo();
        x.heat(2);
        Check.is("heat 3 makes no thirstier", x.hours(1) + x.camelOf(0, 1), 19);
        x.heat(9);
        Check.is("then it is lost", x.hours(1), 1);
        Check.is("thirst", x.camelOf(0, 1), 20);
        Check.is("lost", x.camelOf(0, 3) + x.account(10), 2);
        Check.is("lost now", x.lostIn(0), 0);
        Check.refused(x, "drink", 8, 43, () -> x.drink(0));
        Check.refused(x, "tie", 8, 43, () -> x.tie(0));
    }

    private static void camelsLostStay() {
        MirageSurvey x = thirsty19();
        x.bell(43);
        x.tie(0);
        Check.is("a tied one is lost", x.hours(1), 1);
        Check.is("let loose", x.loose(0), 0);
        Check.refused(x, "tie a lost one", 8, 43, () -> x.tie(0));
        x.hours(48);
        Check.is("it does not stray", x.camelOf(0, 0), 43);
        Check.is("its thirst stays", x.camelOf(0, 1), 20);
        Check.is("it is not called", x.bell(44), 0);
        Check.is("it stays", x.camelOf(0, 0), 43);
        Check.is("it is the nearest one", x.nearest(44), 0);
        Check.is("the mean thirst", x.meanThirst(), 20.0f);
    }

    /** {far from the bell, far from it then}, in the hour 0, where it is heard as far as 30. */
    private static void bellReachAndWay() {
        int[][] due = {{0, 0}, {1, 0}, {9, 0}, {10, 0}, {11, 1}, {20, 10}, {29, 19}, {30, 20}, {31, 31}, {45, 45}};
        for (int[] row : due) {
            MirageSurvey x = new MirageSurvey();
            x.camel(50 - row[0]);
            x.camel(50 + row[0]);
            Check.is("camels there, from " + row[0] + " away", x.bell(50), row[1] == 0 ? 2 : 0);
            Check.is("from " + row[0] + " below", x.camelOf(0, 0), 50 - row[1]);
            Check.is("from " + row[0] + " above", x.camelOf(1, 0), 50 + row[1]);
        }
        MirageSurvey y = new MirageSurvey();
        y.heat(9);
        y.hours(NOON);
        y.camel(38);
        y.camel(63);
        y.bell(50);
        Check.is("12 is heard at noon", y.camelOf(0, 0), 48);
        Check.is("13 is not", y.camelOf(1, 0), 63);
    }

    private static void bellAtTheEndsOfTheFlat() {
        MirageSurvey x = new MirageSurvey();
        x.camel(4);
        x.camel(95);
        x.camel(12);
        x.camel(87);
        Check.is("bell(0)", x.bell(0), 1);
        Check.is("bell(99)", x.bell(99), 1);
        int[] due = {0, 99, 2, 97};
        for (int camel = 0; camel < due.length; camel++) {
            Check.is("camel " + camel, x.camelOf(camel, 0), due[camel]);
        }
        Check.is("bell(0) again", x.bell(0), 2);
        Check.is("bell(50) that none reaches", x.bell(50), 0);
    }

    private static void bellOfTiedAndLost() {
        MirageSurvey x = thirsty19();
        x.hours(1);
        x.camel(41);
        x.tie(1);
        x.camel(40);
        Check.is("the lost one's place", x.camelOf(0, 0), 38);
        Check.is("bell at the tied one", x.bell(41), 2);
        Check.is("the lost one stays", x.camelOf(0, 0), 38);
        Check.is("bell at the lost one", x.bell(38), 2);
        Check.is("the tied one stays", x.camelOf(1, 0), 41);
        Check.is("bell(37)", x.bell(37), 1);
    }

    /** {hours from the start of a day of heat 5, thirst then, cups for it} */
    private static void waterByThirst() {
        int[][] due = {
            {6, 1, 1}, {7, 2, 1}, {8, 3, 2}, {9, 4, 2}, {10, 5, 3}, {11, 7, 4}, {12, 9, 5}, {15, 15, 8},
            {16, 16, 8}, {17, 17, 9}, {18, 18, 9}, {19, 19, 10},
        };
        for (int[] row : due) {
            MirageSurvey x = new MirageSurvey();
            x.camel(50);
            x.hours(row[0]);
            Check.is("thirst after " + row[0] + " hours", x.camelOf(0, 1), row[1]);
            Check.is("cups for " + row[1], x.drink(0), 60 - row[2]);
            Check.is("cups that it drank", x.camelOf(0, 4), row[2]);
            Check.is("its thirst then", x.camelOf(0, 1), 0);
            Check.refused(x, "a second drink", 10, 0, () -> x.drink(0));
        }
    }

    /** {heat of the day, hour, heat, thirst by it} */
    private static void hourThirstByHeat() {
        int[][] due = {
            {3, 6, 3, 0}, {4, 6, 4, 1}, {7, 6, 7, 1}, {8, 6, 8, 2}, {9, 7, 10, 2}, {6, 11, 11, 2}, {6, 12, 12, 3},
            {9, 10, 15, 3}, {8, 12, 16, 4}, {9, 12, 18, 4}, {9, 0, 0, 0}, {9, 13, 16, 4},
        };
        for (int[] row : due) {
            MirageSurvey x = new MirageSurvey();
            pass(x, row[1]);
            x.camel(50);
            Check.is("the heat", x.heat(row[0]), row[2]);
            Check.is("none is lost", x.hours(1), 0);
            Check.is("thirst after an hour of heat " + row[2], x.camelOf(0, 1), row[3]);
        }
    }

    /** From hour 8 on the thirst is 3, 6, 9, 13, 17 and would be 21. */
    private static void hourThirstUpTo20() {
        MirageSurvey x = new MirageSurvey();
        x.heat(9);
        x.hours(8);
        x.camel(10);
        Check.is("lost in", x.lostIn(0), 6);
        Check.is("none is lost", x.hours(5), 0);
        Check.is("thirst", x.camelOf(0, 1), 17);
        Check.is("lost", x.hours(1), 1);
        Check.is("thirst, up to 20", x.camelOf(0, 1), 20);
        Check.is("no stray in the hour of the loss", x.camelOf(0, 0), 25);
    }

    private static void hourUsesItsOwnHeat() {
        MirageSurvey x = new MirageSurvey();
        x.heat(7);
        x.hours(5);
        x.camel(50);
        x.hours(1);
        Check.is("the heat was 5, though it is 7 now", x.camelOf(0, 0), 50);
        x.hours(1);
        Check.is("the heat was 7", x.camelOf(0, 0), 53);
        x.hours(11);
        x.camel(50);
        x.hours(1);
        Check.is("the heat is 5 now", x.account(2), 5);
        Check.is("the heat was 7", x.camelOf(1, 0), 47);
        x.hours(1);
        Check.is("the heat was 5 again", x.camelOf(1, 0), 47);
        x.hours(4);
        Check.is("midnight", x.account(1), 0);
        Check.is("none strayed until midnight", x.camelOf(1, 0), 47);
    }

    private static void hourByHourOrAtOnce() {
        for (int heat = 0; heat <= 9; heat++) {
            MirageSurvey x = new MirageSurvey();
            MirageSurvey y = new MirageSurvey();
            MirageSurvey z = new MirageSurvey();
            for (MirageSurvey each : new MirageSurvey[] {x, y, z}) {
                each.heat(heat);
                each.post(40, 1);
                each.camel(40);
                each.camel(41);
                each.camel(90);
                each.camel(4);
                each.tie(1);
            }
            int lost = 0;
            for (int hour = 0; hour < 48; hour++) {
                lost += y.hours(1);
            }
            Check.is("48 hours or 48 times 1, heat " + heat, x.hours(48), lost);
            Check.is("the same state, heat " + heat, Look.flat(x), Look.flat(y));
            Check.is("as a text, heat " + heat, Check.commands(z, "w9;w48"), 2);
            x.hours(9);
            Check.is("the same state by a text, heat " + heat, Look.flat(z), Look.flat(x));
        }
    }

    /** The detail is the least by which the heat in this hour would have to be less. */
    private static void reasonsOfShimmering() {
        int[][] due = {{11, 9, 1}, {12, 9, 3}, {99, 9, 17}, {99, 5, 17}, {99, 4, 18}, {2, 1, 4}, {30, 1, 18}, {29, 1, 17}};
        for (int[] row : due) {
            MirageSurvey x = new MirageSurvey();
            x.stake(0);
            x.post(row[0], row[1]);
            x.sheet();
            x.heat(9);
            x.hours(NOON);
            Check.refused(x, row[0] + " away, height " + row[1], 5, row[2], () -> x.sight(0, 0, 0));
        }
    }

    private interface Change {
        int make(MirageSurvey x);
    }

    private static final Change[] CHANGES = {
        x -> x.stake(40), x -> x.post(40, 9), MirageSurvey::sheet, x -> x.heat(4), x -> x.sight(0, 0, 0),
        x -> x.camel(38), x -> x.erase(0, 0), x -> x.bell(41), x -> x.tie(0), x -> x.loose(0), x -> x.hours(12),
        x -> x.drink(0), x -> x.water(1), MirageSurvey::commands,
    };

    /** Each kind of change can be undone by itself; only the latest 8 are kept. */
    private static void changesCountOnce() {
        MirageSurvey x = new MirageSurvey();
        Check.append(x, "w1;w1");
        String[] before = new String[CHANGES.length];
        for (int change = 0; change < CHANGES.length; change++) {
            before[change] = Look.flat(x);
            CHANGES[change].make(x);
            Check.is("changes after " + change, x.account(15), Math.min(8, change + 1));
            Check.is("change " + change + " changes", Look.flat(x).equals(before[change]), false);
            Check.is("undo of change " + change, x.undo(), Math.min(7, change));
            Check.is("what was before change " + change, Look.flat(x), before[change]);
            Check.append(x, x.account(16) == 0 ? "w1;w1" : "");
            CHANGES[change].make(x);
        }
        for (int change = CHANGES.length - 1; change >= CHANGES.length - 8; change--) {
            x.undo();
            Check.is("back before change " + change, Look.flat(x), before[change]);
        }
        Check.fails("no ninth", IllegalStateException.class, x::undo);
    }

    /** A change that changes nothing is still a successful call; a call that asks is none. */
    private static void changesThatAreNone() {
        MirageSurvey x = new MirageSurvey();
        x.heat(5);
        x.bell(50);
        Check.is("two changes", x.account(15), 2);
        x.stake(50);
        x.post(50, 1);
        x.sheet();
        x.camel(50);
        x.sight(0, 0, 0);
        x.sight(0, 0, 0);
        Check.is("eight changes", x.account(15), 8);
        x.undo();
        Check.is("a sighting that drew nothing new", x.account(15) * 10 + x.account(14), 71);
        x.save();
        x.append('w');
        x.append('1');
        x.line(0);
        x.character(0);
        x.stakeAt(0);
        x.postOf(0, true);
        x.camelOf(0, 0);
        x.drawnAt(0, 0);
        x.wrongBy(0);
        x.seems(0, 0);
        x.seemsAgain(0, 0);
        x.shimmers(0, 0);
        x.bestPost(0);
        x.clearIn(0, 0);
        x.heatIn(0);
        x.lostIn(0);
        x.nearest(0);
        x.faultPosition();
        x.meanThirst();
        x.rightShare();
        Check.is("none of these is a change", x.account(15), 7);
        x.commands();
        Check.is("a text is one", x.account(15), 8);
    }

    private static void changesKeepWhatStays() {
        MirageSurvey x = new MirageSurvey();
        x.sheet();
        x.save();
        x.hours(1);
        Check.commands(x, "w1;q");
        Check.answer(() -> x.tie(3));
        x.line(0);
        Check.append(x, "w2");
        String due = " text 2 fault 3 line " + Look.line(x) + " reason 3 3 0";
        Check.is("what is there", Look.all(x).endsWith(due), true);
        x.undo();
        Check.is("what stays at undo", Look.all(x).endsWith(due), true);
        x.restore();
        Check.is("what stays at restore", Look.all(x).endsWith(due), true);
        x.save();
        Check.is("what stays at save", Look.all(x).endsWith(due), true);
        Check.is("the text is carried out", x.commands(), 1);
        Check.is("the hour", x.account(0), 2);
        x.undo();
        Check.is("the text does not come back", x.account(16), 0);
        Check.is("nor the fault", x.faultPosition(), -1);
    }
}
