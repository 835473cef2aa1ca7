import java.util.Set;

/** No arguments in any state bring an exception that the document does not name, or one of the machine's own. */
public final class SafetyTest {
    private static final int[] ODD = {
        Integer.MIN_VALUE, Integer.MIN_VALUE + 1, -100, -24, -1, 0, 1, 2, 3, 4, 5, 6, 8, 9, 10, 16, 17, 29, 30, 47,
        48, 49, 59, 60, 61, 79, 99, 100, 101, 200, 214748365, Integer.MAX_VALUE - 1, Integer.MAX_VALUE,
    };
    private static final Set<String> CHANGE = Set.of("UnsupportedOperationException");
    private static final Set<String> INDEX = Set.of("IndexOutOfBoundsException");
    private static final Set<String> ELEMENT = Set.of("IndexOutOfBoundsException", "NoSuchElementException");
    private static final Set<String> ARGUMENT = Set.of("IllegalArgumentException", "NoSuchElementException");
    private static final Set<String> STATE = Set.of("IllegalStateException");

    public static void main(String[] args) {
        all(new MirageSurvey());
        MirageSurvey full = new MirageSurvey();
        fill(full);
        all(full);
        MirageSurvey old = new MirageSurvey();
        fill(old);
        for (int days = 0; days < 2000; days++) {
            old.hours(48);
        }
        all(old);
        Check.end();
    }

    private static void fill(MirageSurvey x) {
        for (int number = 0; number < 10; number++) {
            x.stake(number * 11);
            Check.answer(() -> x.camel(50));
            Check.answer(() -> x.post(45, 9));
            Check.answer(x::sheet);
        }
        for (int stake = 0; stake < 10; stake++) {
            x.sight(stake, 0, stake % 3);
        }
        x.tie(3);
        x.hours(9);
        x.append('w');
    }

    private static void safe(String what, Set<String> kinds, Check.Call call) {
        try {
            call.run();
        } catch (RuntimeException thrown) {
            Check.is(what + " threw " + thrown, kinds.contains(thrown.getClass().getSimpleName()), true);
            Check.is(what + " threw by a throw", "/ by zero".equals(thrown.getMessage()), false);
        }
    }

    private static void all(MirageSurvey x) {
        for (int a : ODD) {
            one(x, a);
            for (int b : ODD) {
                two(x, a, b);
                for (int c : ODD) {
                    safe("sight", CHANGE, () -> x.sight(a, b, c));
                }
            }
        }
        for (int sign = 0; sign < 65536; sign += 7) {
            char character = (char) sign;
            safe("append", STATE, () -> x.append(character));
            if (sign % 3 == 0) {
                safe("commands", Set.of("IllegalArgumentException"), x::commands);
            }
        }
        safe("sheet", CHANGE, x::sheet);
        safe("meanThirst", Set.of("ArithmeticException"), x::meanThirst);
        safe("rightShare", Set.of("ArithmeticException"), x::rightShare);
        safe("faultPosition", Set.of(), x::faultPosition);
        safe("restore", STATE, x::restore);
        safe("save", Set.of(), x::save);
        safe("restore", Set.of(), x::restore);
        safe("undo", STATE, x::undo);
    }

    private static void one(MirageSurvey x, int a) {
        safe("stake", CHANGE, () -> x.stake(a));
        safe("heat", CHANGE, () -> x.heat(a));
        safe("camel", CHANGE, () -> x.camel(a));
        safe("bell", CHANGE, () -> x.bell(a));
        safe("tie", CHANGE, () -> x.tie(a));
        safe("loose", CHANGE, () -> x.loose(a));
        safe("drink", CHANGE, () -> x.drink(a));
        safe("water", CHANGE, () -> x.water(a));
        safe("hours", CHANGE, () -> x.hours(a));
        safe("stakeAt", INDEX, () -> x.stakeAt(a));
        safe("wrongBy", INDEX, () -> x.wrongBy(a));
        safe("line", INDEX, () -> x.line(a));
        safe("character", INDEX, () -> x.character(a));
        safe("bestPost", ELEMENT, () -> x.bestPost(a));
        safe("lostIn", ELEMENT, () -> x.lostIn(a));
        safe("heatIn", ARGUMENT, () -> x.heatIn(a));
        safe("nearest", ARGUMENT, () -> x.nearest(a));
        safe("reason", ARGUMENT, () -> x.reason(a));
        safe("account", ARGUMENT, () -> x.account(a));
    }

    private static void two(MirageSurvey x, int a, int b) {
        safe("post", CHANGE, () -> x.post(a, b));
        safe("erase", CHANGE, () -> x.erase(a, b));
        safe("postOf", INDEX, () -> x.postOf(a, b > 0));
        safe("camelOf", Set.of("IndexOutOfBoundsException", "IllegalArgumentException"), () -> x.camelOf(a, b));
        safe("drawnAt", ELEMENT, () -> x.drawnAt(a, b));
        safe("seems", INDEX, () -> x.seems(a, b));
        safe("seemsAgain", INDEX, () -> x.seemsAgain(a, b));
        safe("shimmers", INDEX, () -> x.shimmers(a, b));
        safe("clearIn", ELEMENT, () -> x.clearIn(a, b));
    }
}
