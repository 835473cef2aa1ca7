import java.util.NoSuchElementException;

/** The boundary cases of the promises, one by one, where no promise's own test has them. */
public final class EdgesTest {
    private static final int NOON = 12;
    private static final Class<NoSuchElementException> NO_ELEMENT = NoSuchElementException.class;
    private static final Class<IllegalArgumentException> BAD = IllegalArgumentException.class;

    public static void main(String[] args) {
        promise1NothingIsThere();
        promise1ObjectsAreApart();
        promises2To14FirstReason();
        promise6LeastHeights();
        promise10NearestPost();
        promise12JustEnough();
        promise13Brim();
        promise14LostInThem();
        promise17Cups();
        promise19AfterRedrawing();
        promises19And32TenStakes();
        promise23OneAfterTheOther();
        promise24EachHour();
        promise26EachHour();
        promise27Ties();
        promise28Brim();
        promise29EachLength();
        promise29OneAfterTheOther();
        promise29FirstAndLastNumbers();
        promise29FaultAheadOfRefusal();
        promise30EachPrefix();
        promise30Brim();
        promise31EachIndex();
        promise32AsInTheDocument();
        promise33EachIndex();
        promise35StakesNotDrawn();
        promise37EachNumberOfChanges();
        promise38AndUndo();
        promise39AgainAndAgain();
        Check.end();
    }

    private static void promise1NothingIsThere() {
        Check.Call[] calls = new Check.Call[8];
        MirageSurvey x = new MirageSurvey();
        calls[0] = () -> x.stakeAt(0);
        calls[1] = () -> x.postOf(0, false);
        calls[2] = () -> x.camelOf(0, 0);
        calls[3] = () -> x.drawnAt(0, 0);
        calls[4] = () -> x.wrongBy(0);
        calls[5] = () -> x.line(0);
        calls[6] = () -> x.character(0);
        calls[7] = () -> x.lostIn(0);
        for (int call = 0; call < calls.length; call++) {
            Check.fails("call " + call + " on a new object", IndexOutOfBoundsException.class, calls[call]);
        }
        Check.is("the first stake, post, sheet and camel", x.stake(1) + x.post(1, 1) + x.sheet() + x.camel(1), 0);
        Check.fails("not drawn at first", NO_ELEMENT, () -> x.drawnAt(0, 0));
        Check.is("the heat at first", x.heatIn(NOON), 10);
    }

    private static void promise1ObjectsAreApart() {
        MirageSurvey x = new MirageSurvey();
        MirageSurvey y = new MirageSurvey();
        String before = Look.all(y);
        x.stake(5);
        x.post(5, 5);
        x.sheet();
        x.sight(0, 0, 0);
        x.camel(5);
        x.water(5);
        x.hours(5);
        x.line(0);
        x.save();
        Check.commands(x, "q");
        Check.append(x, "w");
        Check.answer(() -> x.tie(5));
        Check.is("another object", Look.all(y), before);
        Check.fails("its snapshot", IllegalStateException.class, y::restore);
        Check.is("a third object", Look.all(new MirageSurvey()), before);
    }

    /** Where several reasons apply, the one that the method names first. */
    private static void promises2To14FirstReason() {
        MirageSurvey x = new MirageSurvey();
        Check.refused(x, "sight of nothing", 3, 1, () -> x.sight(1, 2, 3));
        x.stake(0);
        x.post(99, 1);
        x.heat(9);
        x.hours(NOON);
        Check.refused(x, "a bad stake, post and sheet", 3, 1, () -> x.sight(1, 2, 3));
        Check.refused(x, "a bad post and sheet", 3, 2, () -> x.sight(0, 2, 3));
        Check.refused(x, "a bad sheet for what shimmers", 3, 3, () -> x.sight(0, 0, 3));
        Check.refused(x, "a bad stake for a bad sheet", 3, 1, () -> x.erase(1, 0));
        Check.refused(x, "a bad sheet for what is not drawn", 3, 0, () -> x.erase(0, 0));
        x.water(100);
        Check.refused(x, "101 cups, too many and out of range", 1, 0, () -> x.water(101));
        Check.refused(x, "the greatest number of cups", 1, 0, () -> x.water(Integer.MAX_VALUE));
        Check.refused(x, "100 cups", 2, 200, () -> x.water(100));
        x.post(1, 1);
        x.post(2, 1);
        x.post(3, 1);
        Check.refused(x, "a bad place and height, no room", 1, 0, () -> x.post(100, 10));
        Check.refused(x, "a bad height, no room", 1, 0, () -> x.post(0, 0));
        Check.refused(x, "no room", 2, 4, () -> x.post(0, 1));
    }

    private static void promise6LeastHeights() {
        MirageSurvey x = new MirageSurvey();
        x.sheet();
        x.stake(99);
        x.post(0, 9);
        x.post(0, 1);
        x.post(98, 1);
        x.heat(9);
        x.hours(1);
        Check.is("heat 1 from the high post", x.sight(0, 0, 0), 99);
        Check.refused(x, "heat 1 from the low post", 5, 1, () -> x.sight(0, 1, 0));
        x.hours(1);
        Check.refused(x, "heat 3 from the high post", 5, 2, () -> x.sight(0, 0, 0));
        Check.refused(x, "heat 3 from the low post", 5, 3, () -> x.sight(0, 1, 0));
        Check.is("from a post next to it", x.sight(0, 2, 0), 99);
    }

    private static void promise10NearestPost() {
        MirageSurvey x = new MirageSurvey();
        x.camel(99);
        x.post(0, 1);
        Check.refused(x, "a post at the other end", 11, 99, () -> x.tie(0));
        x.post(93, 1);
        Check.refused(x, "the nearer one of two", 11, 6, () -> x.tie(0));
        x.post(20, 1);
        Check.refused(x, "the second one of three", 11, 6, () -> x.tie(0));
        x.post(94, 1);
        Check.is("a post as near as 5", x.tie(0), 1);
        x.undo();
        x.undo();
        Check.refused(x, "undone", 11, 6, () -> x.tie(0));
        x.post(99, 1);
        Check.is("a post at the camel", x.tie(0), 1);
        x.hours(NOON);
        Check.is("it stays tied", x.camelOf(0, 2), 1);
    }

    /** In a day of heat 9, the hours 0 to 9 make thirstier by 13, and the hours 10 to 12 by 11. */
    private static void promise12JustEnough() {
        MirageSurvey x = new MirageSurvey();
        x.heat(9);
        for (int camel = 0; camel < 6; camel++) {
            x.camel(50);
        }
        x.hours(10);
        int[] left = {53, 46, 39, 32, 25, 18};
        for (int camel = 0; camel < 6; camel++) {
            Check.is("7 cups for 13", x.drink(camel), left[camel]);
        }
        x.hours(3);
        for (int camel = 0; camel < 3; camel++) {
            Check.is("6 cups for 11", x.drink(camel), 12 - 6 * camel);
        }
        Check.refused(x, "no water", 9, 6, () -> x.drink(3));
        x.water(5);
        Check.refused(x, "a cup too little", 9, 1, () -> x.drink(3));
        x.water(1);
        Check.is("just enough", x.drink(3), 0);
        Check.is("the cups of all", x.account(12), 66);
        Check.is("thirst stays", x.camelOf(4, 1), 11);
        Check.refused(x, "no water, not thirsty", 10, 3, () -> x.drink(3));
    }

    private static void promise13Brim() {
        MirageSurvey x = new MirageSurvey();
        x.water(100);
        Check.refused(x, "201", 2, 200, () -> x.water(41));
        Check.is("200", x.water(40), 200);
        Check.refused(x, "1 more", 2, 200, () -> x.water(1));
        Check.refused(x, "100 more", 2, 200, () -> x.water(100));
        x.camel(50);
        x.hours(6);
        x.drink(0);
        Check.refused(x, "2 for 1", 2, 200, () -> x.water(2));
        Check.is("1 for 1", x.water(1), 200);
    }

    private static void promise14LostInThem() {
        MirageSurvey x = new MirageSurvey();
        x.heat(9);
        x.camel(50);
        x.camel(50);
        x.hours(9);
        x.drink(1);
        x.camel(50);
        Check.is("camel 0 alone", x.hours(3), 1);
        Check.is("camels 1 and 2 alone", x.hours(48), 2);
        Check.is("none is left", x.hours(48), 0);
        x.camel(50);
        Check.is("the new one", x.hours(48), 1);
        Check.is("lost", x.account(10), 4);
    }

    private static void promise17Cups() {
        MirageSurvey x = new MirageSurvey();
        x.camel(50);
        x.hours(8);
        x.drink(0);
        x.hours(1);
        x.drink(0);
        Check.is("cups add up", x.camelOf(0, 4), 3);
        Check.is("thirst", x.camelOf(0, 1), 0);
        x.undo();
        Check.is("cups before the second drink", x.camelOf(0, 4), 2);
        Check.is("thirst before it", x.camelOf(0, 1), 1);
    }

    private static void promise19AfterRedrawing() {
        MirageSurvey x = new MirageSurvey();
        x.sheet();
        x.stake(90);
        x.stake(10);
        x.post(50, 9);
        x.hours(5);
        x.sight(0, 0, 0);
        x.sight(1, 0, 0);
        Check.is("too far", x.wrongBy(0), 6);
        x.hours(16);
        x.sight(0, 0, 0);
        Check.is("too far and too near", x.wrongBy(0), 4);
        x.hours(3);
        x.sight(0, 0, 0);
        Check.is("one is right", x.wrongBy(0), 3);
        x.erase(1, 0);
        Check.is("the other one is erased", x.wrongBy(0), 0);
        x.undo();
        Check.is("it is back", x.wrongBy(0), 3);
    }

    /** With as many stakes as there can be, a sheet ends at its own last stake, not at the next sheet's first one. */
    private static void promises19And32TenStakes() {
        MirageSurvey x = new MirageSurvey();
        for (int stake = 0; stake < 10; stake++) {
            x.stake(40 + stake);
        }
        x.post(65, 9);
        x.sheet();
        x.sheet();
        x.sheet();
        x.hours(3);
        for (int sheet = 1; sheet < 3; sheet++) {
            x.sight(0, 0, sheet);
            x.sight(9, 0, sheet);
        }
        int[] wrong = {0, 1, 1};
        String[] lines = {"blank", "0@39-1 9@49", "0@39-1 9@49"};
        for (int sheet = 0; sheet < 3; sheet++) {
            Check.is("by how much sheet " + sheet + " is wrong", x.wrongBy(sheet), wrong[sheet]);
            Check.is("the line of sheet " + sheet, Check.line(x, sheet), lines[sheet]);
        }
        Check.is("erased on sheet 1", x.erase(0, 1), 39);
        Check.is("by how much sheet 1 is wrong then", x.wrongBy(1), 0);
        Check.is("the line of sheet 1 then", Check.line(x, 1), "9@49");
        Check.is("drawn", x.account(7), 3);
    }

    private static int best(int[][] posts) {
        MirageSurvey x = new MirageSurvey();
        x.stake(50);
        x.heat(6);
        for (int[] post : posts) {
            x.post(post[0], post[1]);
        }
        x.hours(6);
        return x.bestPost(0);
    }

    /** In heat 6, the stake at 50 is bent by 0 up to 8 away, by 1 up to 16, by 2 up to 24, by 3 up to 33. */
    private static void promise23OneAfterTheOther() {
        Check.is("the nearer one first", best(new int[][] {{50, 1}, {70, 9}}), 0);
        Check.is("the nearer one last", best(new int[][] {{70, 9}, {50, 1}}), 1);
        Check.is("the nearer one between", best(new int[][] {{70, 9}, {60, 5}, {20, 9}}), 1);
        Check.is("the higher one first", best(new int[][] {{58, 9}, {50, 8}}), 0);
        Check.is("the higher one last", best(new int[][] {{50, 8}, {42, 9}}), 1);
        Check.is("the higher one between", best(new int[][] {{50, 7}, {42, 8}, {58, 6}, {50, 8}}), 1);
        Check.is("the first of the same", best(new int[][] {{70, 9}, {58, 5}, {42, 5}, {50, 5}}), 1);
        Check.is("8 away and 9 away", best(new int[][] {{41, 9}, {58, 3}}), 1);
        Check.is("16 away and 17 away", best(new int[][] {{33, 9}, {66, 5}}), 1);
        Check.is("24 away and 25 away", best(new int[][] {{75, 9}, {26, 8}}), 1);
        Check.is("what shimmers does not count", best(new int[][] {{58, 1}, {20, 9}}), 1);
        Check.is("the highest one may shimmer", best(new int[][] {{0, 9}, {17, 8}, {19, 9}}), 2);
    }

    /** The farthest stake and the lowest post: in heat 9 it is clear at midnight alone. */
    private static void promise24EachHour() {
        MirageSurvey x = new MirageSurvey();
        x.stake(99);
        x.stake(0);
        x.post(0, 1);
        x.post(99, 9);
        x.heat(9);
        for (int hour = 0; hour < 49; hour++) {
            int ofDay = hour % 24;
            Check.is("clearIn(0, 0) in hour " + hour, x.clearIn(0, 0), (24 - ofDay) % 24);
            Check.is("clearIn(1, 0) in hour " + hour, x.clearIn(1, 0), 0);
            boolean isClear = ofDay <= 1 || ofDay == 23;
            Check.is("clearIn(1, 1) in hour " + hour, x.clearIn(1, 1), isClear ? 0 : 23 - ofDay);
            x.hours(1);
        }
        x.heat(0);
        x.hours(11);
        Check.is("without heat", x.clearIn(0, 0), 0);
    }

    /** What lostIn answers is what hours do, for each heat and each hour in which a camel comes. */
    private static void promise26EachHour() {
        for (int heat = 0; heat <= 9; heat++) {
            for (int hour = 1; hour <= 24; hour++) {
                MirageSurvey x = new MirageSurvey();
                x.hours(hour);
                x.camel(50);
                x.heat(heat);
                x.save();
                Object answer = Check.answer(() -> x.lostIn(0));
                int due = 0;
                while (due <= 48 && x.account(10) == 0) {
                    x.hours(1);
                    due++;
                }
                String what = "lostIn(0), heat " + heat + ", hour " + hour;
                Check.is(what, answer, due > 48 ? (Object) "NoSuchElementException" : (Object) due);
                x.restore();
                Check.is(what + ", nothing is changed", x.account(0) * 10 + x.camelOf(0, 1), hour * 10);
            }
        }
    }

    private static void promise27Ties() {
        MirageSurvey x = new MirageSurvey();
        x.camel(30);
        x.post(30, 1);
        x.tie(0);
        x.hours(7);
        x.camel(50);
        x.camel(70);
        x.post(50, 1);
        x.post(70, 1);
        x.tie(1);
        x.tie(2);
        x.hours(1);
        Check.is("the thirst", x.camelOf(0, 1) * 100 + x.camelOf(1, 1) * 10 + x.camelOf(2, 1), 311);
        int[][] due = {{0, 0}, {30, 0}, {40, 0}, {41, 1}, {50, 1}, {59, 1}, {60, 1}, {61, 2}, {70, 2}, {99, 2}};
        for (int[] row : due) {
            Check.is("nearest(" + row[0] + ")", x.nearest(row[0]), row[1]);
        }
        x.drink(0);
        Check.is("not the lowest one, but the thirstiest", x.nearest(40), 1);
        x.drink(1);
        Check.is("neither is thirsty: the lowest one", x.nearest(40), 0);
        Check.is("the last one is thirsty", x.nearest(60), 2);
        x.heat(9);
        x.hours(24);
        Check.is("all are lost: the lowest one", x.nearest(40) * 10 + x.nearest(60), 1);
        Check.fails("nearest(-1)", BAD, () -> x.nearest(-1));
    }

    private static void promise28Brim() {
        MirageSurvey x = new MirageSurvey();
        for (int round = 0; round < 2; round++) {
            for (int length = 1; length <= 60; length++) {
                Check.is("append", x.append("w1;".charAt((length - 1) % 3)), length);
            }
            Check.fails("a 61st character", IllegalStateException.class, () -> x.append('1'));
            Check.fails("a 62nd character", IllegalStateException.class, () -> x.append('1'));
            Check.is("characters", x.account(16), 60);
            Check.fails("a text that ends too early", BAD, x::commands);
        }
        for (char sign : new char[] {0, ' ', ';', 127, 255, 256, 65535}) {
            int length = x.account(16);
            Check.is("append " + (int) sign, x.append(sign), length + 1);
        }
    }

    /** Texts of 1 to 20 commands, with and without a blank command behind them. */
    private static void promise29EachLength() {
        for (int count = 1; count <= 20; count++) {
            MirageSurvey x = new MirageSurvey();
            String text = "w1;".repeat(count);
            String whole = text.substring(0, text.length() - 1);
            Check.is("commands, " + count, Check.commands(x, whole), count);
            Check.is("the hour", x.account(0), count);
            Check.is("one change", x.account(15), 1);
            Check.is("no fault", x.faultPosition(), -1);
            Check.is("commands and a blank one, " + count, Check.commands(x, text), "IllegalArgumentException");
            Check.is("the fault", x.faultPosition(), text.length());
            Check.is("the hour still", x.account(0), count);
            Check.is("undo", x.undo(), 0);
            Check.is("the first hour", x.account(0), 0);
        }
        MirageSurvey x = new MirageSurvey();
        Check.is("an empty text", Check.answer(x::commands), "IllegalArgumentException");
        Check.is("the fault of an empty text", x.faultPosition(), 0);
        Check.is("the buffer is empty again", Check.commands(x, "w1") + " " + Check.answer(x::commands),
            "1 IllegalArgumentException");
    }

    /** Commands see what those ahead of them did. */
    private static void promise29OneAfterTheOther() {
        MirageSurvey x = new MirageSurvey();
        x.post(20, 9);
        x.camel(35);
        x.camel(9);
        x.stake(60);
        x.sheet();
        Check.is("come, then be tied", Check.commands(x, "b20;t0;b20"), 3);
        Check.is("where the camels are", x.camelOf(0, 0) * 100 + x.camelOf(1, 0), 2520);
        Check.is("tied", x.account(9), 1);
        Check.is("loose, tied, loose", Check.commands(x, "l0;t0;l0"), 3);
        Check.is("loose twice", Check.commands(x, "t0;l0;l0"), "UnsupportedOperationException");
        Check.reason(x, "loose twice", 7, 0, 2);
        Check.is("loose still", x.account(9), 0);
        Check.is("erase before it is drawn", Check.commands(x, "e0/0;s0@0>0"), "UnsupportedOperationException");
        Check.reason(x, "erase before it is drawn", 6, 0, 0);
        Check.is("no sighting", x.account(14), 0);
        Check.is("erase behind it", Check.commands(x, "s0@0>0;e0/0;s0@0>0"), 3);
        Check.is("sightings", x.account(14) * 10 + x.account(7), 21);
        Check.is("too hot in the end", Check.commands(x, "w5;s0@0>0;w1;s0@0>0"), "UnsupportedOperationException");
        Check.reason(x, "too hot in the end", 5, 1, 3);
        Check.is("the hour", x.account(0), 0);
        Check.is("where it is drawn", x.drawnAt(0, 0), 60);
        Check.is("thirsty in the end", Check.commands(x, "w8;d0;w1;d0"), 4);
        Check.is("cups", x.camelOf(0, 4), 3);
    }

    private static void promise29FirstAndLastNumbers() {
        MirageSurvey x = new MirageSurvey();
        for (int number = 0; number < 10; number++) {
            x.stake(number * 11);
            Check.answer(() -> x.post(50, 9));
            Check.answer(x::sheet);
            Check.answer(() -> x.camel(50));
        }
        Check.is("the last of each", Check.commands(x, "s9@3>2;e9/2;t5;l5;b99;b0;b00;b09;w48;w1;w01"), 11);
        Check.is("the hour", x.account(0), 50);
        x.hours(22);
        Check.is("the first of each", Check.commands(x, "s0@0>0;e0/0"), 2);
        for (String one : new String[] {"s9@4>2", "s9@3>3", "e9/3", "t6", "l6", "d6"}) {
            Check.is(one, Check.commands(x, one), "UnsupportedOperationException");
            Check.is("the reason of " + one, x.reason(0), 3);
        }
        for (String one : new String[] {"w0", "w00", "w49", "w99"}) {
            Check.is(one, Check.commands(x, one), "UnsupportedOperationException");
            Check.reason(x, one, 1, 0, 0);
        }
    }

    private static void promise29FaultAheadOfRefusal() {
        MirageSurvey x = new MirageSurvey();
        for (String text : new String[] {"t9;", "t9;x", "w0;w", "t9;t9;;", "w99 "}) {
            Check.is(text, Check.commands(x, text), "IllegalArgumentException");
            Check.fails("no reason of " + text, NO_ELEMENT, () -> x.reason(0));
            Check.is("the text after " + text, x.account(16), 0);
        }
        Check.is("a refusal", Check.commands(x, "w1;w0"), "UnsupportedOperationException");
        Check.is("a fault after it", Check.commands(x, "w1;t"), "IllegalArgumentException");
        Check.reason(x, "stays", 1, 0, 1);
        Check.is("a good text after it", Check.commands(x, "w1"), 1);
        Check.reason(x, "stays again", 1, 0, 1);
    }

    /** Each start of a text that ends too early, and each with a character that cannot continue it. */
    private static void promise30EachPrefix() {
        String text = "s0@0>0;e0/0;b12;t0;l0;d0;w12;b5;w6";
        String whole = " s0@0>0 e0/0 b1 b12 t0 l0 d0 w1 w12 b5 w6 ";
        for (int length = 0; length < text.length(); length++) {
            String start = text.substring(0, length);
            String last = start.substring(start.lastIndexOf(';') + 1);
            MirageSurvey x = new MirageSurvey();
            Check.commands(x, start + "%");
            Check.is("the fault of " + start + "%", x.faultPosition(), length);
            boolean isWhole = !last.isEmpty() && whole.contains(" " + last + " ");
            Check.commands(x, start);
            Check.is("the fault of " + start, x.faultPosition(), isWhole ? -1 : length);
            Check.commands(x, start + "%;%");
            Check.is("the fault of " + start + "%;%", x.faultPosition(), length);
        }
    }

    private static void promise30Brim() {
        MirageSurvey x = new MirageSurvey();
        String long57 = "w1;".repeat(19);
        int[] due = {-1, -1, 60, 59, 59, 57, 60};
        String[] ends = {"w01", "b99", "w1;", "w1b", "t00", "x01", "s0@"};
        for (int end = 0; end < ends.length; end++) {
            String text = long57 + ends[end];
            Check.is("60 characters", text.length(), 60);
            Check.is(text, Check.commands(x, text), due[end] < 0 ? (Object) 20 : "IllegalArgumentException");
            Check.is("the fault of " + text, x.faultPosition(), due[end]);
        }
    }

    private static void promise31EachIndex() {
        for (int index = 0; index < 20; index++) {
            MirageSurvey x = new MirageSurvey();
            String text = "w1;".repeat(index) + "t7" + ";w1".repeat(19 - index);
            Check.is(text, Check.commands(x, text), "UnsupportedOperationException");
            Check.reason(x, text, 3, 7, index);
            Check.is("the hour", x.account(0), 0);
            Check.refused(x, "another call", 3, -7, () -> x.tie(-7));
        }
    }

    private static void promise32AsInTheDocument() {
        MirageSurvey x = new MirageSurvey();
        x.sheet();
        x.sheet();
        x.post(45, 9);
        for (int place : new int[] {75, 99, 0, 40}) {
            x.stake(place);
        }
        x.hours(20);
        x.sight(3, 0, 0);
        Check.is("as it is", Check.line(x, 0), "3@40");
        x.sight(0, 0, 0);
        Check.is("less", Check.line(x, 0), "0@74-1 3@40");
        Check.is("its length", x.line(0), 11);
        Check.is("none is drawn", Check.line(x, 1), "blank");
        Check.is("the length of blank", x.line(1), 5);
        x.undo();
        x.undo();
        Check.is("none is drawn again", Check.line(x, 0), "blank");
    }

    private static void promise33EachIndex() {
        MirageSurvey x = new MirageSurvey();
        x.sheet();
        x.stake(9);
        x.post(0, 1);
        x.sight(0, 0, 0);
        Check.is("the line", x.line(0), 3);
        Object[] due = {"IndexOutOfBoundsException", '0', '@', '9', "IndexOutOfBoundsException"};
        for (int index = -1; index < 4; index++) {
            int at = index;
            Check.is("character(" + index + ")", Check.answer(() -> x.character(at)), due[index + 1]);
        }
        x.stake(10);
        x.sight(1, 0, 0);
        Check.fails("the line is not written again by itself", IndexOutOfBoundsException.class, () -> x.character(3));
        Check.is("the line", x.line(0), 8);
        Check.is("its last character", x.character(7), '0');
    }

    private static void promise35StakesNotDrawn() {
        MirageSurvey x = new MirageSurvey();
        x.sheet();
        x.sheet();
        x.stake(0);
        x.stake(50);
        x.post(0, 9);
        x.sight(1, 0, 1);
        Check.is("a stake that is not drawn does not count", x.rightShare(), 1.0);
        x.hours(3);
        x.sight(1, 0, 0);
        Check.is("one of two", x.rightShare(), 0.5);
        x.sight(0, 0, 0);
        Check.is("two of three", x.rightShare(), 2.0 / 3.0);
        x.sight(1, 0, 1);
        Check.is("one of three, redrawn", x.rightShare(), 1.0 / 3.0);
        x.erase(0, 0);
        Check.is("none of two", x.rightShare(), 0.0);
    }

    private static void promise37EachNumberOfChanges() {
        for (int changes = 0; changes <= 20; changes++) {
            MirageSurvey x = new MirageSurvey();
            for (int change = 0; change < changes; change++) {
                x.hours(1);
            }
            int kept = Math.min(8, changes);
            Check.is("changes that can be undone", x.account(15), kept);
            for (int left = kept - 1; left >= 0; left--) {
                Check.is("undo", x.undo(), left);
                Check.is("the hour", x.account(0), changes - kept + left);
            }
            Check.fails("no more", IllegalStateException.class, x::undo);
            Check.is("the hour", x.account(0), changes - kept);
        }
    }

    private static void promise38AndUndo() {
        MirageSurvey x = new MirageSurvey();
        x.stake(50);
        x.hours(2);
        x.hours(3);
        Check.is("save", x.save(), 5);
        Check.is("undo still goes", x.undo(), 2);
        Check.is("behind the snapshot", x.undo(), 1);
        Check.is("and farther", x.undo(), 0);
        Check.is("nothing is there", Look.flat(x), Look.flat(new MirageSurvey()));
        Check.is("restore what was saved", x.restore(), 5);
        Check.is("the stake", x.stakeAt(0), 50);
        Check.fails("restore is not undone", IllegalStateException.class, x::undo);
        x.hours(1);
        x.undo();
        Check.is("save in place of it", x.save(), 5);
    }

    private static void promise39AgainAndAgain() {
        MirageSurvey x = new MirageSurvey();
        Check.is("save", x.save(), 0);
        String first = Look.flat(x);
        for (int round = 1; round < 4; round++) {
            x.stake(round);
            x.post(round, round);
            x.sheet();
            x.sight(0, 0, 0);
            x.camel(round);
            x.hours(round * 10);
            x.heat(round);
            Check.is("changes", x.account(15), 7);
            Check.is("restore", x.restore(), 0);
            Check.is("what was saved", Look.flat(x), first);
            Check.is("changes after restore", x.account(15), 0);
            Check.is("restore at once", x.restore(), 0);
        }
        x.sheet();
        x.hours(7);
        Check.is("save in place of it", x.save(), 7);
        x.hours(7);
        Check.is("restore the later one", x.restore(), 7);
        Check.is("the sheet", x.account(6), 1);
        for (int change = 0; change < 9; change++) {
            x.hours(1);
        }
        Check.is("changes after restore", x.account(15), 8);
        Check.is("undo", x.undo(), 7);
    }
}
