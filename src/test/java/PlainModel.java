import java.util.ArrayDeque;
import java.util.ArrayList;
import java.util.Deque;
import java.util.List;
import java.util.NoSuchElementException;
import java.util.TreeMap;
import java.util.regex.Matcher;
import java.util.regex.Pattern;

/** The document once more, written another way: copies of lists and maps, a regular expression for texts. */
final class PlainModel {
    private static final String COMMAND = "(?:s[0-9]@[0-9]>[0-9]|e[0-9]/[0-9]|[bw][0-9]{1,2}|[tld][0-9])";
    private static final Pattern TEXT = Pattern.compile(COMMAND + "(?:;" + COMMAND + ")*");

    /** A refusal on its way to the call. */
    private static final class Refused extends RuntimeException {
        private static final long serialVersionUID = 1;
        final int kind;
        final int detail;

        Refused(int kind, int detail) {
            this.kind = kind;
            this.detail = detail;
        }
    }

    private static final class Camel {
        int place;
        int thirst;
        boolean tied;
        int cups;

        boolean lost() {
            return thirst == 20;
        }

        Camel copy() {
            Camel copy = new Camel();
            copy.place = place;
            copy.thirst = thirst;
            copy.tied = tied;
            copy.cups = cups;
            return copy;
        }
    }

    private static final class State {
        List<Integer> stakes = new ArrayList<>();
        List<int[]> posts = new ArrayList<>();
        List<TreeMap<Integer, Integer>> sheets = new ArrayList<>();
        List<Camel> camels = new ArrayList<>();
        int hour = 0;
        int heat = 5;
        int water = 60;
        int sightings = 0;

        State copy() {
            State copy = new State();
            copy.stakes.addAll(stakes);
            copy.posts.addAll(posts);
            for (TreeMap<Integer, Integer> sheet : sheets) {
                copy.sheets.add(new TreeMap<>(sheet));
            }
            for (Camel camel : camels) {
                copy.camels.add(camel.copy());
            }
            copy.hour = hour;
            copy.heat = heat;
            copy.water = water;
            copy.sightings = sightings;
            return copy;
        }

        int heatAt(int at) {
            int day = at % 24;
            return (int) Math.floor(heat * Math.min(day, 24 - day) / 6.0);
        }
    }

    private interface Change {
        int make();
    }

    private State now = new State();
    private State snapshot = null;
    private final Deque<State> past = new ArrayDeque<>();
    private final StringBuilder buffer = new StringBuilder();
    private String line = "";
    private int fault = -1;
    private int[] kept = null;

    private int change(Change change) {
        State was = now.copy();
        try {
            int answer = change.make();
            push(was);
            return answer;
        } catch (Refused refused) {
            now = was;
            kept = new int[] {refused.kind, refused.detail, 0};
            throw new UnsupportedOperationException();
        }
    }

    private void push(State was) {
        past.addLast(was);
        if (past.size() > 8) {
            past.removeFirst();
        }
    }

    private static void refuseIf(boolean bad, int kind, int detail) {
        if (bad) {
            throw new Refused(kind, detail);
        }
    }

    private static boolean in(int number, List<?> list) {
        return number >= 0 && number < list.size();
    }

    private static boolean within(int number, int from, int to) {
        return from <= number && number <= to;
    }

    int stake(int place) {
        return change(() -> {
            refuseIf(!within(place, 0, 99), 1, 0);
            refuseIf(now.stakes.size() == 10, 2, 10);
            refuseIf(now.stakes.contains(place), 4, now.stakes.indexOf(place));
            now.stakes.add(place);
            return now.stakes.size() - 1;
        });
    }

    int post(int place, int height) {
        return change(() -> {
            refuseIf(!within(place, 0, 99) || !within(height, 1, 9), 1, 0);
            refuseIf(now.posts.size() == 4, 2, 4);
            now.posts.add(new int[] {place, height});
            return now.posts.size() - 1;
        });
    }

    int sheet() {
        return change(() -> {
            refuseIf(now.sheets.size() == 3, 2, 3);
            now.sheets.add(new TreeMap<>());
            return now.sheets.size() - 1;
        });
    }

    int heat(int heat) {
        return change(() -> {
            refuseIf(!within(heat, 0, 9), 1, 0);
            now.heat = heat;
            return now.heatAt(now.hour);
        });
    }

    int sight(int stake, int post, int sheet) {
        return change(() -> sightNow(stake, post, sheet));
    }

    private int sightNow(int stake, int post, int sheet) {
        refuseIf(!in(stake, now.stakes), 3, stake);
        refuseIf(!in(post, now.posts), 3, post);
        refuseIf(!in(sheet, now.sheets), 3, sheet);
        int heat = now.heatAt(now.hour);
        int clear = heat;
        while (shimmersAt(clear, stake, post)) {
            clear--;
        }
        refuseIf(clear < heat, 5, heat - clear);
        now.sheets.get(sheet).put(stake, seemsNow(stake, post));
        now.sightings++;
        return seemsNow(stake, post);
    }

    private boolean shimmersAt(int heat, int stake, int post) {
        int far = Math.abs(now.stakes.get(stake) - now.posts.get(post)[0]);
        return Math.floor(heat * far / 10.0) > 2 * now.posts.get(post)[1];
    }

    private int seemsNow(int stake, int post) {
        int place = now.stakes.get(stake);
        int at = now.posts.get(post)[0];
        int far = Math.abs(place - at);
        int bent = (int) Math.floor(now.heatAt(now.hour) * far / 50.0);
        int seen = now.hour % 24 < 12 ? far + bent : far - bent;
        int seeming = place >= at ? at + seen : at - seen;
        return seeming < 0 ? 0 : seeming > 99 ? 99 : seeming;
    }

    int erase(int stake, int sheet) {
        return change(() -> eraseNow(stake, sheet));
    }

    private int eraseNow(int stake, int sheet) {
        refuseIf(!in(stake, now.stakes), 3, stake);
        refuseIf(!in(sheet, now.sheets), 3, sheet);
        refuseIf(!now.sheets.get(sheet).containsKey(stake), 6, stake);
        return now.sheets.get(sheet).remove(stake);
    }

    int camel(int place) {
        return change(() -> {
            refuseIf(!within(place, 0, 99), 1, 0);
            refuseIf(now.camels.size() == 6, 2, 6);
            Camel camel = new Camel();
            camel.place = place;
            now.camels.add(camel);
            return now.camels.size() - 1;
        });
    }

    int bell(int place) {
        return change(() -> bellNow(place));
    }

    private int bellNow(int place) {
        refuseIf(!within(place, 0, 99), 1, 0);
        int there = 0;
        for (Camel camel : now.camels) {
            boolean comes = !camel.tied && !camel.lost();
            comes &= Math.abs(camel.place - place) <= 30 - now.heatAt(now.hour);
            for (int step = 0; comes && step < 10 && camel.place != place; step++) {
                camel.place += camel.place < place ? 1 : -1;
            }
            there += camel.place == place ? 1 : 0;
        }
        return there;
    }

    private int tied() {
        return (int) now.camels.stream().filter(camel -> camel.tied).count();
    }

    int tie(int camel) {
        return change(() -> tieNow(camel));
    }

    private int tieNow(int number) {
        refuseIf(!in(number, now.camels), 3, number);
        Camel camel = now.camels.get(number);
        refuseIf(camel.lost(), 8, camel.place);
        refuseIf(camel.tied, 7, number);
        refuseIf(now.posts.isEmpty(), 11, 0);
        int far = now.posts.stream().mapToInt(post -> Math.abs(post[0] - camel.place)).min().getAsInt();
        refuseIf(far > 5, 11, far);
        camel.tied = true;
        return tied();
    }

    int loose(int camel) {
        return change(() -> looseNow(camel));
    }

    private int looseNow(int number) {
        refuseIf(!in(number, now.camels), 3, number);
        refuseIf(!now.camels.get(number).tied, 7, number);
        now.camels.get(number).tied = false;
        return tied();
    }

    int drink(int camel) {
        return change(() -> drinkNow(camel));
    }

    private int drinkNow(int number) {
        refuseIf(!in(number, now.camels), 3, number);
        Camel camel = now.camels.get(number);
        refuseIf(camel.lost(), 8, camel.place);
        refuseIf(camel.thirst == 0, 10, number);
        int cups = camel.thirst / 2 + camel.thirst % 2;
        refuseIf(cups > now.water, 9, cups - now.water);
        camel.thirst = 0;
        camel.cups += cups;
        now.water -= cups;
        return now.water;
    }

    int water(int cups) {
        return change(() -> {
            refuseIf(!within(cups, 1, 100), 1, 0);
            refuseIf(now.water + cups > 200, 2, 200);
            now.water += cups;
            return now.water;
        });
    }

    int hours(int hours) {
        return change(() -> hoursNow(hours));
    }

    private int hoursNow(int hours) {
        refuseIf(!within(hours, 1, 48), 1, 0);
        int lost = 0;
        for (int gone = 0; gone < hours; gone++) {
            int heat = now.heatAt(now.hour);
            for (int number = 0; number < now.camels.size(); number++) {
                Camel camel = now.camels.get(number);
                if (camel.lost()) {
                    continue;
                }
                camel.thirst = Math.min(20, camel.thirst + heat / 4);
                if (camel.lost()) {
                    lost++;
                } else if (heat >= 6 && !camel.tied) {
                    int place = number % 2 == 0 ? camel.place + 3 : camel.place - 3;
                    camel.place = place < 0 ? 0 : place > 99 ? 99 : place;
                }
            }
            now.hour++;
        }
        return lost;
    }

    private void need(boolean has) {
        if (!has) {
            throw new IndexOutOfBoundsException();
        }
    }

    private void argument(boolean good) {
        if (!good) {
            throw new IllegalArgumentException();
        }
    }

    int stakeAt(int stake) {
        need(in(stake, now.stakes));
        return now.stakes.get(stake);
    }

    int postOf(int post, boolean isHeight) {
        need(in(post, now.posts));
        return now.posts.get(post)[isHeight ? 1 : 0];
    }

    int camelOf(int number, int what) {
        need(in(number, now.camels));
        argument(within(what, 0, 4));
        Camel camel = now.camels.get(number);
        return new int[] {camel.place, camel.thirst, camel.tied ? 1 : 0, camel.lost() ? 1 : 0, camel.cups}[what];
    }

    int drawnAt(int stake, int sheet) {
        need(in(stake, now.stakes) && in(sheet, now.sheets));
        if (!now.sheets.get(sheet).containsKey(stake)) {
            throw new NoSuchElementException();
        }
        return now.sheets.get(sheet).get(stake);
    }

    int wrongBy(int sheet) {
        need(in(sheet, now.sheets));
        int wrong = 0;
        for (int stake : now.sheets.get(sheet).keySet()) {
            wrong += Math.abs(now.sheets.get(sheet).get(stake) - now.stakes.get(stake));
        }
        return wrong;
    }

    int seems(int stake, int post) {
        need(in(stake, now.stakes) && in(post, now.posts));
        return seemsNow(stake, post);
    }

    boolean shimmers(int stake, int post) {
        need(in(stake, now.stakes) && in(post, now.posts));
        return shimmersAt(now.heatAt(now.hour), stake, post);
    }

    int bestPost(int stake) {
        need(in(stake, now.stakes));
        int best = -1;
        int[] bestRank = null;
        for (int post = now.posts.size() - 1; post >= 0; post--) {
            int[] rank = {Math.abs(seemsNow(stake, post) - now.stakes.get(stake)), -now.posts.get(post)[1]};
            if (!shimmers(stake, post) && (best < 0 || java.util.Arrays.compare(rank, bestRank) <= 0)) {
                best = post;
                bestRank = rank;
            }
        }
        if (best < 0) {
            throw new NoSuchElementException();
        }
        return best;
    }

    int clearIn(int stake, int post) {
        need(in(stake, now.stakes) && in(post, now.posts));
        int hours = 0;
        while (shimmersAt(now.heatAt(now.hour + hours), stake, post)) {
            hours++;
        }
        return hours;
    }

    int heatIn(int hours) {
        argument(within(hours, 0, 47));
        return now.heatAt(now.hour + hours);
    }

    int lostIn(int number) {
        need(in(number, now.camels));
        State was = now;
        now = was.copy();
        int hours = 0;
        while (!now.camels.get(number).lost() && hours < 49) {
            hoursNow(1);
            hours++;
        }
        now = was;
        if (hours > 48) {
            throw new NoSuchElementException();
        }
        return hours;
    }

    int nearest(int place) {
        argument(within(place, 0, 99));
        int best = -1;
        int bestRank = Integer.MAX_VALUE;
        for (int number = 0; number < now.camels.size(); number++) {
            Camel camel = now.camels.get(number);
            int rank = Math.abs(camel.place - place) * 100 - camel.thirst;
            if (rank < bestRank) {
                best = number;
                bestRank = rank;
            }
        }
        if (best < 0) {
            throw new NoSuchElementException();
        }
        return best;
    }

    int append(char character) {
        if (buffer.length() == 60) {
            throw new IllegalStateException();
        }
        return buffer.append(character).length();
    }

    /** How long the longest start of the text is that can still become a whole text. */
    private static int faultOf(String text) {
        if (TEXT.matcher(text).matches()) {
            return -1;
        }
        for (int length = 1; length <= text.length(); length++) {
            Matcher matcher = TEXT.matcher(text.substring(0, length));
            if (!matcher.matches() && !matcher.hitEnd()) {
                return length - 1;
            }
        }
        return text.length();
    }

    int commands() {
        String text = buffer.toString();
        buffer.setLength(0);
        fault = faultOf(text);
        argument(fault < 0);
        State was = now.copy();
        String[] parts = text.split(";");
        for (int index = 0; index < parts.length; index++) {
            try {
                carryOut(parts[index]);
            } catch (Refused refused) {
                now = was;
                kept = new int[] {refused.kind, refused.detail, index};
                throw new UnsupportedOperationException();
            }
        }
        push(was);
        return parts.length;
    }

    private void carryOut(String command) {
        String[] numbers = command.substring(1).split("[@>/]");
        int first = Integer.parseInt(numbers[0]);
        switch (command.charAt(0)) {
            case 's' -> sightNow(first, Integer.parseInt(numbers[1]), Integer.parseInt(numbers[2]));
            case 'e' -> eraseNow(first, Integer.parseInt(numbers[1]));
            case 'b' -> bellNow(first);
            case 't' -> tieNow(first);
            case 'l' -> looseNow(first);
            case 'd' -> drinkNow(first);
            default -> hoursNow(first);
        }
    }

    int faultPosition() {
        return fault;
    }

    int reason(int what) {
        argument(within(what, 0, 2));
        if (kept == null) {
            throw new NoSuchElementException();
        }
        return kept[what];
    }

    int line(int sheet) {
        need(in(sheet, now.sheets));
        List<String> parts = new ArrayList<>();
        now.sheets.get(sheet).forEach((stake, place) -> {
            int wrong = place - now.stakes.get(stake);
            parts.add(stake + "@" + place + (wrong == 0 ? "" : wrong > 0 ? "+" + wrong : "" + wrong));
        });
        line = parts.isEmpty() ? "blank" : String.join(" ", parts);
        return line.length();
    }

    char character(int index) {
        need(within(index, 0, line.length() - 1));
        return line.charAt(index);
    }

    private void arithmetic(boolean good) {
        if (!good) {
            throw new ArithmeticException();
        }
    }

    float meanThirst() {
        arithmetic(!now.camels.isEmpty());
        float thirst = now.camels.stream().mapToInt(camel -> camel.thirst).sum();
        return thirst / now.camels.size();
    }

    private int drawn() {
        return now.sheets.stream().mapToInt(TreeMap::size).sum();
    }

    double rightShare() {
        arithmetic(drawn() > 0);
        double right = 0;
        for (TreeMap<Integer, Integer> sheet : now.sheets) {
            for (int stake : sheet.keySet()) {
                right += sheet.get(stake).equals(now.stakes.get(stake)) ? 1 : 0;
            }
        }
        return right / drawn();
    }

    int account(int what) {
        argument(within(what, 0, 16));
        int lost = (int) now.camels.stream().filter(Camel::lost).count();
        int cups = now.camels.stream().mapToInt(camel -> camel.cups).sum();
        int heat = now.heatAt(now.hour);
        int[] all = {now.hour, now.hour % 24, heat, now.heat, now.stakes.size(), now.posts.size(),
            now.sheets.size(), drawn(), now.camels.size(), tied(), lost, now.water, cups, 30 - heat,
            now.sightings, past.size(), buffer.length()};
        return all[what];
    }

    int undo() {
        if (past.isEmpty()) {
            throw new IllegalStateException();
        }
        now = past.removeLast();
        return past.size();
    }

    int save() {
        snapshot = now.copy();
        return now.hour;
    }

    int restore() {
        if (snapshot == null) {
            throw new IllegalStateException();
        }
        now = snapshot.copy();
        past.clear();
        return now.hour;
    }
}
