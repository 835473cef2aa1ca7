import java.util.NoSuchElementException;

/** A mirage survey of a salt flat; ../shared/DOC.md says what each call promises. */
public final class MirageSurvey {
    private static final int PLACES = 100;
    private static final int MOST_STAKES = 10;
    private static final int MOST_POSTS = 4;
    private static final int MOST_SHEETS = 3;
    private static final int MOST_CAMELS = 6;
    private static final int MOST_WATER = 200;
    private static final int MOST_CUPS_BROUGHT = 100;
    private static final int MOST_HEIGHT = 9;
    private static final int MOST_DAY_HEAT = 9;
    private static final int MOST_HOURS = 48;
    private static final int MOST_SIGNS = 60;
    private static final int MOST_UNDONE = 8;
    private static final int MOST_LINE = 79;

    private static final int DAY = 24;
    private static final int NOON = 12;
    private static final int FIRST_DAY_HEAT = 5;
    private static final int FIRST_WATER = 60;
    private static final int LOST_THIRST = 20;
    private static final int STRAY_HEAT = 6;
    private static final int STRAY = 3;
    private static final int BELL_REACH = 30;
    private static final int BELL_WAY = 10;
    private static final int TIE_REACH = 5;

    private static final int OUT_OF_RANGE = 1;
    private static final int TOO_MANY = 2;
    private static final int NO_SUCH = 3;
    private static final int STAKE_THERE = 4;
    private static final int SHIMMERING = 5;
    private static final int NOT_DRAWN_THERE = 6;
    private static final int ALREADY = 7;
    private static final int LOST = 8;
    private static final int TOO_LITTLE_WATER = 9;
    private static final int NOT_THIRSTY = 10;
    private static final int NO_POST_NEAR = 11;

    /** What a change answers that is refused; all other answers are 0 or more. */
    private static final int REFUSED = -1;
    private static final int NOT_DRAWN = -1;
    private static final int NONE = -1;

    private final Flat flat = new Flat();
    private final Flat before = new Flat();
    private final Flat saved = new Flat();
    private final History history = new History();
    private final Text text = new Text();
    private final Line written = new Line();
    private boolean isSaved = false;
    private int faultAt = NONE;
    private int commandIndex = 0;
    private int reasonKind = 0;
    private int reasonDetail = 0;
    private int reasonCommand = 0;

    public MirageSurvey() {
    }

    // ---- changes ----

    public int stake(int place) throws UnsupportedOperationException {
        begin();
        return settle(driveStake(place));
    }

    public int post(int place, int height) throws UnsupportedOperationException {
        begin();
        return settle(setUpPost(place, height));
    }

    public int sheet() throws UnsupportedOperationException {
        begin();
        return settle(addSheet());
    }

    public int heat(int heat) throws UnsupportedOperationException {
        begin();
        return settle(setDayHeat(heat));
    }

    public int sight(int stake, int post, int sheet) throws UnsupportedOperationException {
        begin();
        return settle(drawSighted(stake, post, sheet));
    }

    public int erase(int stake, int sheet) throws UnsupportedOperationException {
        begin();
        return settle(eraseDrawn(stake, sheet));
    }

    public int camel(int place) throws UnsupportedOperationException {
        begin();
        return settle(bringCamel(place));
    }

    public int bell(int place) throws UnsupportedOperationException {
        begin();
        return settle(ringBell(place));
    }

    public int tie(int camel) throws UnsupportedOperationException {
        begin();
        return settle(tieCamel(camel));
    }

    public int loose(int camel) throws UnsupportedOperationException {
        begin();
        return settle(loosenCamel(camel));
    }

    public int drink(int camel) throws UnsupportedOperationException {
        begin();
        return settle(waterCamel(camel));
    }

    public int water(int cups) throws UnsupportedOperationException {
        begin();
        return settle(bringWater(cups));
    }

    public int hours(int hours) throws UnsupportedOperationException {
        begin();
        return settle(passHours(hours));
    }

    // ---- questions ----

    public int stakeAt(int stake) throws IndexOutOfBoundsException {
        needStake(stake);
        return flat.stakes.get(stake);
    }

    public int postOf(int post, boolean isHeight) throws IndexOutOfBoundsException {
        needPost(post);
        return isHeight ? flat.heights.get(post) : flat.posts.get(post);
    }

    public int camelOf(int camel, int what) throws IndexOutOfBoundsException, IllegalArgumentException {
        needCamel(camel);
        switch (what) {
            case 0: return flat.camels.get(camel);
            case 1: return flat.thirsts.get(camel);
            case 2: return flat.ties.get(camel);
            case 3: return flat.isLost(camel) ? 1 : 0;
            case 4: return flat.drunk.get(camel);
            default: throw new IllegalArgumentException("no such number of a camel");
        }
    }

    public int drawnAt(int stake, int sheet) throws IndexOutOfBoundsException, NoSuchElementException {
        needStake(stake);
        needSheet(sheet);
        int place = flat.drawnPlace(stake, sheet);
        if (place == NOT_DRAWN) {
            throw new NoSuchElementException("the stake is not drawn there");
        }
        return place;
    }

    public int wrongBy(int sheet) throws IndexOutOfBoundsException {
        needSheet(sheet);
        int wrong = 0;
        for (int stake = 0; stake < flat.stakes.size(); stake++) {
            int place = flat.drawnPlace(stake, sheet);
            wrong += place == NOT_DRAWN ? 0 : Math.abs(place - flat.stakes.get(stake));
        }
        return wrong;
    }

    public int seems(int stake, int post) throws IndexOutOfBoundsException {
        needStake(stake);
        needPost(post);
        return flat.seemingPlace(stake, post);
    }

    public int seemsAgain(int stake, int post) throws IndexOutOfBoundsException {
        needStake(stake);
        needPost(post);
        return flat.walkedPlace(stake, post);
    }

    public boolean shimmers(int stake, int post) throws IndexOutOfBoundsException {
        needStake(stake);
        needPost(post);
        return flat.isShimmering(stake, post, flat.heatNow());
    }

    public int bestPost(int stake) throws IndexOutOfBoundsException, NoSuchElementException {
        needStake(stake);
        int best = flat.clearestPost(stake);
        if (best == NONE) {
            throw new NoSuchElementException("the stake shimmers from every post");
        }
        return best;
    }

    public int clearIn(int stake, int post) throws IndexOutOfBoundsException, NoSuchElementException {
        needStake(stake);
        needPost(post);
        int clear = flat.hoursUntilClear(stake, post);
        if (clear == NONE) {
            throw new NoSuchElementException("the stake shimmers all day");
        }
        return clear;
    }

    public int heatIn(int hours) throws IllegalArgumentException {
        if (hours < 0 || hours >= MOST_HOURS) {
            throw new IllegalArgumentException("the hours are out of range");
        }
        return flat.heatAt(flat.hour + hours);
    }

    public int lostIn(int camel) throws IndexOutOfBoundsException, NoSuchElementException {
        needCamel(camel);
        int lost = flat.hoursUntilLost(camel);
        if (lost == NONE) {
            throw new NoSuchElementException("the camel is not lost so soon");
        }
        return lost;
    }

    public int nearest(int place) throws IllegalArgumentException, NoSuchElementException {
        if (!isPlace(place)) {
            throw new IllegalArgumentException("there is no such place");
        }
        int camel = flat.nearestCamel(place);
        if (camel == NONE) {
            throw new NoSuchElementException("there are no camels");
        }
        return camel;
    }

    // ---- texts, reasons and the line ----

    public int append(char character) throws IllegalStateException {
        if (text.isFull()) {
            throw new IllegalStateException("the text buffer is full");
        }
        return text.put(character);
    }

    public int commands() throws IllegalArgumentException, UnsupportedOperationException {
        int count = text.countCommands();
        faultAt = count == NONE ? text.position() : NONE;
        if (count == NONE) {
            text.clear();
            throw new IllegalArgumentException("the text has a fault");
        }
        begin();
        text.rewind();
        int answer = count;
        for (int index = 0; index < count && answer != REFUSED; index++) {
            commandIndex = index;
            text.readCommand();
            answer = carryOut(text.kind(), text.numbers) == REFUSED ? REFUSED : count;
            text.readSign(';');
        }
        if (answer == REFUSED) {
            flat.copyFrom(before);
        }
        text.clear();
        return settle(answer);
    }

    public int faultPosition() {
        return faultAt;
    }

    public int reason(int what) throws IllegalArgumentException, NoSuchElementException {
        if (what < 0 || what > 2) {
            throw new IllegalArgumentException("no such number of a reason");
        }
        if (reasonKind == 0) {
            throw new NoSuchElementException("nothing was refused");
        }
        if (what == 0) {
            return reasonKind;
        }
        return what == 1 ? reasonDetail : reasonCommand;
    }

    public int line(int sheet) throws IndexOutOfBoundsException {
        needSheet(sheet);
        written.clear();
        for (int stake = 0; stake < flat.stakes.size(); stake++) {
            int place = flat.drawnPlace(stake, sheet);
            if (place != NOT_DRAWN) {
                written.putStake(stake, place, place - flat.stakes.get(stake));
            }
        }
        if (written.length() == 0) {
            written.putWord("blank");
        }
        return written.length();
    }

    public char character(int index) throws IndexOutOfBoundsException {
        if (index < 0 || index >= written.length()) {
            throw new IndexOutOfBoundsException("the line has no such index");
        }
        return written.signAt(index);
    }

    // ---- accounts ----

    public float meanThirst() throws ArithmeticException {
        int camels = flat.camels.size();
        if (camels <= 0) {
            throw new ArithmeticException("there are no camels");
        }
        return (float) flat.thirsts.sum() / (float) camels;
    }

    public double rightShare() throws ArithmeticException {
        int drawn = flat.countDrawn(false);
        if (drawn <= 0) {
            throw new ArithmeticException("nothing is drawn");
        }
        return (double) flat.countDrawn(true) / (double) drawn;
    }

    public int account(int what) throws IllegalArgumentException {
        switch (what) {
            case 0: return flat.hour;
            case 1: return flat.hour % DAY;
            case 2: return flat.heatNow();
            case 3: return flat.dayHeat;
            case 4: return flat.stakes.size();
            case 5: return flat.posts.size();
            case 6: return flat.sheets;
            case 7: return flat.countDrawn(false);
            case 8: return flat.camels.size();
            case 9: return flat.ties.sum();
            case 10: return flat.countLost();
            case 11: return flat.cups;
            case 12: return flat.drunk.sum();
            case 13: return flat.bellReach();
            case 14: return flat.sightings;
            case 15: return history.size();
            case 16: return text.length();
            default: throw new IllegalArgumentException("no such account");
        }
    }

    // ---- undo and the snapshot ----

    public int undo() throws IllegalStateException {
        if (history.size() == 0) {
            throw new IllegalStateException("nothing can be undone");
        }
        history.takeBack(flat);
        return history.size();
    }

    public int save() {
        saved.copyFrom(flat);
        isSaved = true;
        return flat.hour;
    }

    public int restore() throws IllegalStateException {
        if (!isSaved) {
            throw new IllegalStateException("nothing was saved");
        }
        flat.copyFrom(saved);
        history.forget();
        return flat.hour;
    }

    // ---- how a change is begun, refused and settled ----

    private void begin() {
        before.copyFrom(flat);
        commandIndex = 0;
    }

    private int refuse(int kind, int detail) {
        reasonKind = kind;
        reasonDetail = detail;
        reasonCommand = commandIndex;
        return REFUSED;
    }

    private int settle(int answer) throws UnsupportedOperationException {
        if (answer == REFUSED) {
            throw new UnsupportedOperationException("refused; reason tells why");
        }
        history.keep(before);
        return answer;
    }

    private int carryOut(char kind, Row numbers) {
        int first = numbers.get(0);
        switch (kind) {
            case 's': return drawSighted(first, numbers.get(1), numbers.get(2));
            case 'e': return eraseDrawn(first, numbers.get(1));
            case 'b': return ringBell(first);
            case 't': return tieCamel(first);
            case 'l': return loosenCamel(first);
            case 'd': return waterCamel(first);
            default: return passHours(first);
        }
    }

    // ---- the changes themselves: each answers REFUSED or what its method returns ----

    private int driveStake(int place) {
        if (!isPlace(place)) {
            return refuse(OUT_OF_RANGE, 0);
        }
        if (flat.stakes.isFull()) {
            return refuse(TOO_MANY, MOST_STAKES);
        }
        int there = flat.stakes.find(place);
        if (there != NONE) {
            return refuse(STAKE_THERE, there);
        }
        return flat.stakes.add(place);
    }

    private int setUpPost(int place, int height) {
        if (!isPlace(place) || height < 1 || height > MOST_HEIGHT) {
            return refuse(OUT_OF_RANGE, 0);
        }
        if (flat.posts.isFull()) {
            return refuse(TOO_MANY, MOST_POSTS);
        }
        flat.heights.add(height);
        return flat.posts.add(place);
    }

    private int addSheet() {
        if (flat.sheets >= MOST_SHEETS) {
            return refuse(TOO_MANY, MOST_SHEETS);
        }
        flat.sheets++;
        return flat.sheets - 1;
    }

    private int setDayHeat(int dayHeat) {
        if (dayHeat < 0 || dayHeat > MOST_DAY_HEAT) {
            return refuse(OUT_OF_RANGE, 0);
        }
        flat.dayHeat = dayHeat;
        return flat.heatNow();
    }

    private int drawSighted(int stake, int post, int sheet) {
        if (!flat.stakes.has(stake)) {
            return refuse(NO_SUCH, stake);
        }
        if (!flat.posts.has(post)) {
            return refuse(NO_SUCH, post);
        }
        if (!flat.hasSheet(sheet)) {
            return refuse(NO_SUCH, sheet);
        }
        int tooHot = flat.heatTooMuch(stake, post);
        if (tooHot > 0) {
            return refuse(SHIMMERING, tooHot);
        }
        int place = flat.seemingPlace(stake, post);
        flat.draw(stake, sheet, place);
        flat.sightings++;
        return place;
    }

    private int eraseDrawn(int stake, int sheet) {
        if (!flat.stakes.has(stake)) {
            return refuse(NO_SUCH, stake);
        }
        if (!flat.hasSheet(sheet)) {
            return refuse(NO_SUCH, sheet);
        }
        int place = flat.drawnPlace(stake, sheet);
        if (place == NOT_DRAWN) {
            return refuse(NOT_DRAWN_THERE, stake);
        }
        flat.draw(stake, sheet, NOT_DRAWN);
        return place;
    }

    private int bringCamel(int place) {
        if (!isPlace(place)) {
            return refuse(OUT_OF_RANGE, 0);
        }
        if (flat.camels.isFull()) {
            return refuse(TOO_MANY, MOST_CAMELS);
        }
        flat.thirsts.add(0);
        flat.ties.add(0);
        flat.drunk.add(0);
        return flat.camels.add(place);
    }

    private int ringBell(int place) {
        if (!isPlace(place)) {
            return refuse(OUT_OF_RANGE, 0);
        }
        int there = 0;
        for (int camel = 0; camel < flat.camels.size(); camel++) {
            flat.callCamel(camel, place);
            there += flat.camels.get(camel) == place ? 1 : 0;
        }
        return there;
    }

    private int tieCamel(int camel) {
        if (!flat.camels.has(camel)) {
            return refuse(NO_SUCH, camel);
        }
        if (flat.isLost(camel)) {
            return refuse(LOST, flat.camels.get(camel));
        }
        if (flat.ties.get(camel) == 1) {
            return refuse(ALREADY, camel);
        }
        int far = flat.farToPost(flat.camels.get(camel));
        if (far == NONE || far > TIE_REACH) {
            return refuse(NO_POST_NEAR, far == NONE ? 0 : far);
        }
        flat.ties.set(camel, 1);
        return flat.ties.sum();
    }

    private int loosenCamel(int camel) {
        if (!flat.camels.has(camel)) {
            return refuse(NO_SUCH, camel);
        }
        if (flat.ties.get(camel) == 0) {
            return refuse(ALREADY, camel);
        }
        flat.ties.set(camel, 0);
        return flat.ties.sum();
    }

    private int waterCamel(int camel) {
        if (!flat.camels.has(camel)) {
            return refuse(NO_SUCH, camel);
        }
        if (flat.isLost(camel)) {
            return refuse(LOST, flat.camels.get(camel));
        }
        int thirst = flat.thirsts.get(camel);
        if (thirst == 0) {
            return refuse(NOT_THIRSTY, camel);
        }
        int needed = (thirst + 1) / 2;
        if (needed > flat.cups) {
            return refuse(TOO_LITTLE_WATER, needed - flat.cups);
        }
        flat.cups -= needed;
        flat.thirsts.set(camel, 0);
        flat.drunk.set(camel, flat.drunk.get(camel) + needed);
        return flat.cups;
    }

    private int bringWater(int cups) {
        if (cups < 1 || cups > MOST_CUPS_BROUGHT) {
            return refuse(OUT_OF_RANGE, 0);
        }
        if (flat.cups + cups > MOST_WATER) {
            return refuse(TOO_MANY, MOST_WATER);
        }
        flat.cups += cups;
        return flat.cups;
    }

    private int passHours(int hours) {
        if (hours < 1 || hours > MOST_HOURS) {
            return refuse(OUT_OF_RANGE, 0);
        }
        int lostBefore = flat.countLost();
        for (int passed = 0; passed < hours; passed++) {
            flat.passHour();
        }
        return flat.countLost() - lostBefore;
    }

    // ---- what questions need ----

    private static boolean isPlace(int place) {
        return place >= 0 && place < PLACES;
    }

    private static int nearestPlace(int place) {
        return Math.max(0, Math.min(PLACES - 1, place));
    }

    private static int wayTo(int from, int to) {
        return from <= to ? 1 : -1;
    }

    private void needStake(int stake) throws IndexOutOfBoundsException {
        if (!flat.stakes.has(stake)) {
            throw new IndexOutOfBoundsException("there is no such stake");
        }
    }

    private void needPost(int post) throws IndexOutOfBoundsException {
        if (!flat.posts.has(post)) {
            throw new IndexOutOfBoundsException("there is no such post");
        }
    }

    private void needSheet(int sheet) throws IndexOutOfBoundsException {
        if (!flat.hasSheet(sheet)) {
            throw new IndexOutOfBoundsException("there is no such sheet");
        }
    }

    private void needCamel(int camel) throws IndexOutOfBoundsException {
        if (!flat.camels.has(camel)) {
            throw new IndexOutOfBoundsException("there is no such camel");
        }
    }

    /** Numbers in a row with a fixed room. Each index is tested here, so that no user of a row need do so. */
    private static final class Row {
        private final int[] items;
        private int size = 0;

        Row(int room) {
            items = new int[room > 0 ? room : 0];
        }

        int size() {
            return size;
        }

        boolean isFull() {
            return size >= items.length;
        }

        boolean has(int index) {
            return index >= 0 && index < size && index < items.length;
        }

        int get(int index) {
            return index >= 0 && index < size && index < items.length ? items[index] : 0;
        }

        void set(int index, int value) {
            if (index >= 0 && index < size && index < items.length) {
                items[index] = value;
            }
        }

        /** Answers the index of the new number, or NONE if there is no room for it. */
        int add(int value) {
            if (size < 0 || size >= items.length) {
                return NONE;
            }
            items[size] = value;
            size++;
            return size - 1;
        }

        void clear() {
            size = 0;
        }

        int find(int value) {
            for (int index = 0; index < size; index++) {
                if (get(index) == value) {
                    return index;
                }
            }
            return NONE;
        }

        int sum() {
            int sum = 0;
            for (int index = 0; index < size; index++) {
                sum += get(index);
            }
            return sum;
        }

        void copyFrom(Row other) {
            System.arraycopy(other.items, 0, items, 0, Math.min(items.length, other.items.length));
            size = other.size;
        }
    }

    /** All that can be undone. */
    private static final class Flat {
        final Row stakes = new Row(MOST_STAKES);
        final Row posts = new Row(MOST_POSTS);
        final Row heights = new Row(MOST_POSTS);
        final Row drawn = new Row(MOST_SHEETS * MOST_STAKES);
        final Row camels = new Row(MOST_CAMELS);
        final Row thirsts = new Row(MOST_CAMELS);
        final Row ties = new Row(MOST_CAMELS);
        final Row drunk = new Row(MOST_CAMELS);
        int sheets = 0;
        int hour = 0;
        int dayHeat = FIRST_DAY_HEAT;
        int cups = FIRST_WATER;
        int sightings = 0;

        Flat() {
            for (int slot = 0; slot < MOST_SHEETS * MOST_STAKES; slot++) {
                drawn.add(NOT_DRAWN);
            }
        }

        void copyFrom(Flat other) {
            stakes.copyFrom(other.stakes);
            posts.copyFrom(other.posts);
            heights.copyFrom(other.heights);
            drawn.copyFrom(other.drawn);
            camels.copyFrom(other.camels);
            thirsts.copyFrom(other.thirsts);
            ties.copyFrom(other.ties);
            drunk.copyFrom(other.drunk);
            sheets = other.sheets;
            hour = other.hour;
            dayHeat = other.dayHeat;
            cups = other.cups;
            sightings = other.sightings;
        }

        int heatAt(int someHour) {
            int ofDay = someHour % DAY;
            int fromMidnight = ofDay <= NOON ? ofDay : DAY - ofDay;
            return dayHeat * fromMidnight / 6;
        }

        int heatNow() {
            return heatAt(hour);
        }

        int bellReach() {
            return BELL_REACH - heatNow();
        }

        // -- stakes from posts --

        int farFrom(int stake, int post) {
            return Math.abs(stakes.get(stake) - posts.get(post));
        }

        static boolean isTooHot(int heat, int far, int height) {
            return heat * far / 10 > 2 * height;
        }

        boolean isShimmering(int stake, int post, int heat) {
            return isTooHot(heat, farFrom(stake, post), heights.get(post));
        }

        /** Answers the least by which the heat would have to be less for no shimmer, 0 if there is none. */
        int heatTooMuch(int stake, int post) {
            int heat = heatNow();
            int far = farFrom(stake, post);
            int less = 0;
            while (less < heat && isTooHot(heat - less, far, heights.get(post))) {
                less++;
            }
            return less;
        }

        int bending(int stake, int post) {
            return heatNow() * farFrom(stake, post) / 50;
        }

        /** Answers 1 or -1 for the way in which the mirage moves the stake. */
        int bendingWay(int stake, int post) {
            int away = wayTo(posts.get(post), stakes.get(stake));
            return hour % DAY < NOON ? away : -away;
        }

        int seemingPlace(int stake, int post) {
            return nearestPlace(stakes.get(stake) + bendingWay(stake, post) * bending(stake, post));
        }

        int walkedPlace(int stake, int post) {
            int way = bendingWay(stake, post);
            int place = stakes.get(stake);
            for (int left = bending(stake, post); left > 0 && isPlace(place + way); left--) {
                place += way;
            }
            return place;
        }

        int clearestPost(int stake) {
            int best = NONE;
            for (int post = 0; post < posts.size(); post++) {
                if (isShimmering(stake, post, heatNow())) {
                    continue;
                }
                if (best == NONE || isBetterPost(stake, post, best)) {
                    best = post;
                }
            }
            return best;
        }

        boolean isBetterPost(int stake, int post, int other) {
            int wrong = Math.abs(seemingPlace(stake, post) - stakes.get(stake));
            int otherWrong = Math.abs(seemingPlace(stake, other) - stakes.get(stake));
            if (wrong != otherWrong) {
                return wrong < otherWrong;
            }
            return heights.get(post) > heights.get(other);
        }

        int hoursUntilClear(int stake, int post) {
            for (int hours = 0; hours < DAY; hours++) {
                if (!isShimmering(stake, post, heatAt(hour + hours))) {
                    return hours;
                }
            }
            return NONE;
        }

        // -- sheets --

        boolean hasSheet(int sheet) {
            return sheet >= 0 && sheet < sheets;
        }

        int drawnPlace(int stake, int sheet) {
            return drawn.get(sheet * MOST_STAKES + stake);
        }

        void draw(int stake, int sheet, int place) {
            drawn.set(sheet * MOST_STAKES + stake, place);
        }

        int countDrawn(boolean onlyRight) {
            int count = 0;
            for (int slot = 0; slot < drawn.size(); slot++) {
                int place = drawn.get(slot);
                boolean isRight = place == stakes.get(slot % MOST_STAKES);
                if (place != NOT_DRAWN && (isRight || !onlyRight)) {
                    count++;
                }
            }
            return count;
        }

        // -- camels --

        boolean isLost(int camel) {
            return thirsts.get(camel) >= LOST_THIRST;
        }

        boolean isRoaming(int camel) {
            return ties.get(camel) == 0 && !isLost(camel);
        }

        int countLost() {
            int count = 0;
            for (int camel = 0; camel < camels.size(); camel++) {
                count += isLost(camel) ? 1 : 0;
            }
            return count;
        }

        void callCamel(int camel, int place) {
            int from = camels.get(camel);
            int far = Math.abs(place - from);
            if (isRoaming(camel) && far <= bellReach()) {
                camels.set(camel, from + wayTo(from, place) * Math.min(far, BELL_WAY));
            }
        }

        /** Answers how far the nearest post is from a place, or NONE without posts. */
        int farToPost(int place) {
            int nearest = NONE;
            for (int post = 0; post < posts.size(); post++) {
                int far = Math.abs(posts.get(post) - place);
                if (nearest == NONE || far < nearest) {
                    nearest = far;
                }
            }
            return nearest;
        }

        int nearestCamel(int place) {
            int best = NONE;
            for (int camel = 0; camel < camels.size(); camel++) {
                if (best == NONE || isNearer(place, camel, best)) {
                    best = camel;
                }
            }
            return best;
        }

        boolean isNearer(int place, int camel, int other) {
            int far = Math.abs(camels.get(camel) - place);
            int otherFar = Math.abs(camels.get(other) - place);
            if (far != otherFar) {
                return far < otherFar;
            }
            return thirsts.get(camel) > thirsts.get(other);
        }

        int thirstAfter(int thirst, int heat) {
            return Math.min(LOST_THIRST, thirst + heat / 4);
        }

        int hoursUntilLost(int camel) {
            int thirst = thirsts.get(camel);
            for (int hours = 0; hours <= MOST_HOURS; hours++) {
                if (thirst >= LOST_THIRST) {
                    return hours;
                }
                thirst = thirstAfter(thirst, heatAt(hour + hours));
            }
            return NONE;
        }

        void passHour() {
            int heat = heatNow();
            for (int camel = 0; camel < camels.size(); camel++) {
                thirsts.set(camel, thirstAfter(thirsts.get(camel), heat));
                if (heat >= STRAY_HEAT && isRoaming(camel)) {
                    stray(camel);
                }
            }
            hour++;
        }

        void stray(int camel) {
            camels.set(camel, nearestPlace(camels.get(camel) + (camel % 2 == 0 ? STRAY : -STRAY)));
        }
    }

    /** What there was before each of the latest changes, in a ring. */
    private static final class History {
        private final Flat[] kept = new Flat[MOST_UNDONE];
        private int size = 0;
        private int next = 0;

        History() {
            for (int index = 0; index < kept.length; index++) {
                kept[index] = new Flat();
            }
        }

        int size() {
            return size;
        }

        private Flat slot(int index) {
            return index >= 0 && index < kept.length ? kept[index] : null;
        }

        void keep(Flat flat) {
            Flat slot = slot(next);
            if (slot != null) {
                slot.copyFrom(flat);
            }
            next = next + 1 < MOST_UNDONE ? next + 1 : 0;
            size = Math.min(MOST_UNDONE, size + 1);
        }

        void takeBack(Flat flat) {
            next = next > 0 ? next - 1 : MOST_UNDONE - 1;
            size = Math.max(0, size - 1);
            Flat slot = slot(next);
            if (slot != null) {
                flat.copyFrom(slot);
            }
        }

        void forget() {
            size = 0;
        }
    }

    /** The text buffer, and the reading of commands in it. */
    private static final class Text {
        /** The numbers of the command that was read last. */
        final Row numbers = new Row(3);
        private final char[] signs = new char[MOST_SIGNS];
        private int length = 0;
        private int position = 0;
        private char kind = ' ';

        int length() {
            return length;
        }

        int position() {
            return position;
        }

        char kind() {
            return kind;
        }

        boolean isFull() {
            return length >= signs.length;
        }

        int put(char sign) {
            if (length >= 0 && length < signs.length) {
                signs[length] = sign;
                length++;
            }
            return length;
        }

        void clear() {
            length = 0;
        }

        void rewind() {
            position = 0;
        }

        /** Answers how many commands there are, or NONE, with the position at the fault. */
        int countCommands() {
            rewind();
            for (int count = 1; count <= MOST_SIGNS; count++) {
                if (!readCommand()) {
                    return NONE;
                }
                if (position >= length) {
                    return count;
                }
                if (!readSign(';')) {
                    return NONE;
                }
            }
            return NONE;
        }

        /** Reads a command, or stays at the first sign that cannot belong to one. */
        boolean readCommand() {
            numbers.clear();
            kind = signHere();
            String form = formOf(kind);
            for (int index = 0; index < form.length(); index++) {
                if (!readPart(form.charAt(index))) {
                    return false;
                }
            }
            return !form.isEmpty();
        }

        /** In a form, "1" stands for a number of one digit, "2" for one of one or two digits. */
        private static String formOf(char kind) {
            switch (kind) {
                case 's': return "s1@1>1";
                case 'e': return "e1/1";
                case 'b': return "b2";
                case 't': return "t1";
                case 'l': return "l1";
                case 'd': return "d1";
                case 'w': return "w2";
                default: return "";
            }
        }

        private boolean readPart(char part) {
            if (part == '1' || part == '2') {
                return readNumber(part == '2');
            }
            return readSign(part);
        }

        boolean readSign(char sign) {
            if (signHere() != sign) {
                return false;
            }
            position++;
            return true;
        }

        private boolean readNumber(boolean hasTwoDigits) {
            int number = readDigit();
            if (number == NONE) {
                return false;
            }
            int second = hasTwoDigits ? readDigit() : NONE;
            numbers.add(second == NONE ? number : number * 10 + second);
            return true;
        }

        private int readDigit() {
            char sign = signHere();
            if (sign < '0' || sign > '9') {
                return NONE;
            }
            position++;
            return sign - '0';
        }

        /** Answers a blank, which no command holds, where the text ends. */
        private char signHere() {
            return position >= 0 && position < length && position < signs.length ? signs[position] : ' ';
        }
    }

    /** The line that is written of a sheet. */
    private static final class Line {
        private final char[] signs = new char[MOST_LINE];
        private int length = 0;

        int length() {
            return length;
        }

        char signAt(int index) {
            return index >= 0 && index < length && index < signs.length ? signs[index] : ' ';
        }

        void clear() {
            length = 0;
        }

        void putStake(int stake, int place, int tooFar) {
            if (length > 0) {
                put(' ');
            }
            putNumber(stake);
            put('@');
            putNumber(place);
            if (tooFar != 0) {
                put(tooFar > 0 ? '+' : '-');
                putNumber(Math.abs(tooFar));
            }
        }

        void putWord(String word) {
            for (int index = 0; index < word.length(); index++) {
                put(word.charAt(index));
            }
        }

        /** All numbers of a line are below 100. */
        private void putNumber(int number) {
            if (number >= 10) {
                put((char) ('0' + number / 10 % 10));
            }
            put((char) ('0' + number % 10));
        }

        private void put(char sign) {
            if (length >= 0 && length < signs.length) {
                signs[length] = sign;
                length++;
            }
        }
    }
}
