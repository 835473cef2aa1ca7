/** Long runs of calls, made by counting numbers, answered by the class and by PlainModel. */
public final class ModelTest {
    private static final int RUNS = 1000;
    private static final int CALLS = 512;
    private static final int[] ODD = {-1, 100, 10, 4, 3, 6, 48, 49, 47, 99, Integer.MIN_VALUE, Integer.MAX_VALUE};
    private static final String[] TEXTS = {
        "s", "e", "b", "t", "l", "d", "w", "@", ">", "/", ";", "0", "1", "7", " ", "s0@0>0", "e0/0", "w9", "b50",
        "t0", "l0", "d0", "w", ";", ";", ";",
    };

    private static long seed = 1;
    private static MirageSurvey real;
    private static PlainModel plain;

    public static void main(String[] args) {
        for (int run = 0; run < RUNS; run++) {
            real = new MirageSurvey();
            plain = new PlainModel();
            for (int call = 0; call < CALLS; call++) {
                step("run " + run + ", call " + call);
            }
            compareAll("run " + run + ", at the end");
        }
        Check.end();
    }

    /** A number from 0 to below the bound: a linear congruence, the same in each run of the test. */
    private static int pick(int bound) {
        seed = seed * 6364136223846793005L + 1442695040888963407L;
        return (int) ((seed >>> 33) % bound);
    }

    /** Most often a number that is there, seldom an odd one. */
    private static int some(int bound) {
        return pick(16) == 0 ? ODD[pick(ODD.length)] : pick(bound);
    }

    private static void both(String what, Check.Call one, Check.Call other) {
        Check.is(what, Check.answer(one), Check.answer(other));
    }

    private static void step(String at) {
        int kind = pick(100);
        if (kind < 45) {
            change(at, kind % 15);
        } else if (kind < 60) {
            text(at);
        } else if (kind < 64) {
            rest(at, kind % 4);
        } else if (kind < 66) {
            compareAll(at);
        } else {
            ask(at, kind % 18);
        }
    }

    private static void change(String at, int kind) {
        int a = some(100);
        int number = some(6);
        int b = some(4);
        int c = some(3);
        int stake = some(10);
        switch (kind) {
            case 0 -> both(at + " stake " + a, () -> real.stake(a), () -> plain.stake(a));
            case 1 -> both(at + " post " + a, () -> real.post(a, number + b), () -> plain.post(a, number + b));
            case 2 -> both(at + " sheet", () -> real.sheet(), () -> plain.sheet());
            case 3 -> both(at + " heat " + stake, () -> real.heat(stake), () -> plain.heat(stake));
            case 4, 5, 6 -> both(at + " sight", () -> real.sight(stake, b, c), () -> plain.sight(stake, b, c));
            case 7 -> both(at + " erase", () -> real.erase(stake, c), () -> plain.erase(stake, c));
            case 8 -> both(at + " camel " + a, () -> real.camel(a), () -> plain.camel(a));
            case 9 -> both(at + " bell " + a, () -> real.bell(a), () -> plain.bell(a));
            case 10 -> both(at + " tie " + number, () -> real.tie(number), () -> plain.tie(number));
            case 11 -> both(at + " loose " + number, () -> real.loose(number), () -> plain.loose(number));
            case 12 -> both(at + " drink " + number, () -> real.drink(number), () -> plain.drink(number));
            case 13 -> both(at + " water " + a, () -> real.water(a), () -> plain.water(a));
            default -> both(at + " hours " + stake, () -> real.hours(stake), () -> plain.hours(stake));
        }
    }

    private static String command() {
        switch (pick(8)) {
            case 0: return "s" + pick(10) + "@" + pick(4) + ">" + pick(3);
            case 1: return "e" + pick(10) + "/" + pick(3);
            case 2: return "b" + pick(100);
            case 3: return "t" + pick(6);
            case 4: return "l" + pick(6);
            case 5: return "d" + pick(6);
            case 6: return "b0" + pick(10);
            default: return "w" + (1 + pick(7));
        }
    }

    private static void text(String at) {
        StringBuilder text = new StringBuilder();
        int parts = pick(4);
        if (pick(3) == 0) {
            for (int part = 0; part <= 3 * parts; part++) {
                text.append(TEXTS[pick(TEXTS.length)]);
            }
        } else {
            text.append(command());
            for (int part = 0; part < parts; part++) {
                text.append(';').append(command());
            }
        }
        for (int index = 0; index < text.length(); index++) {
            char sign = text.charAt(index);
            both(at + " append", () -> real.append(sign), () -> plain.append(sign));
        }
        if (pick(8) != 0) {
            both(at + " commands " + text, () -> real.commands(), () -> plain.commands());
            both(at + " faultPosition " + text, () -> real.faultPosition(), () -> plain.faultPosition());
        }
    }

    private static void rest(String at, int kind) {
        switch (kind) {
            case 0 -> both(at + " save", () -> real.save(), () -> plain.save());
            case 1 -> both(at + " restore", () -> real.restore(), () -> plain.restore());
            default -> both(at + " undo", () -> real.undo(), () -> plain.undo());
        }
    }

    private static void ask(String at, int kind) {
        int a = some(100);
        int camel = some(6);
        int stake = some(10);
        int post = some(4);
        int sheet = some(3);
        switch (kind) {
            case 0 -> both(at + " stakeAt", () -> real.stakeAt(stake), () -> plain.stakeAt(stake));
            case 1 -> both(at + " postOf", () -> real.postOf(post, a > 50), () -> plain.postOf(post, a > 50));
            case 2 -> both(at + " camelOf", () -> real.camelOf(camel, post), () -> plain.camelOf(camel, post));
            case 3 -> both(at + " drawnAt", () -> real.drawnAt(stake, sheet), () -> plain.drawnAt(stake, sheet));
            case 4 -> both(at + " wrongBy", () -> real.wrongBy(sheet), () -> plain.wrongBy(sheet));
            case 5 -> both(at + " seems", () -> real.seems(stake, post), () -> plain.seems(stake, post));
            case 6 -> both(at + " seemsAgain", () -> real.seemsAgain(stake, post), () -> plain.seems(stake, post));
            case 7 -> both(at + " shimmers", () -> real.shimmers(stake, post), () -> plain.shimmers(stake, post));
            case 8 -> both(at + " bestPost", () -> real.bestPost(stake), () -> plain.bestPost(stake));
            case 9 -> both(at + " clearIn", () -> real.clearIn(stake, post), () -> plain.clearIn(stake, post));
            case 10 -> both(at + " heatIn", () -> real.heatIn(a), () -> plain.heatIn(a));
            case 11 -> both(at + " lostIn", () -> real.lostIn(camel), () -> plain.lostIn(camel));
            case 12 -> both(at + " nearest", () -> real.nearest(a), () -> plain.nearest(a));
            case 13 -> both(at + " line", () -> real.line(sheet), () -> plain.line(sheet));
            case 14 -> both(at + " character", () -> real.character(stake), () -> plain.character(stake));
            case 15 -> both(at + " reason", () -> real.reason(sheet), () -> plain.reason(sheet));
            case 16 -> both(at + " account", () -> real.account(a), () -> plain.account(a));
            default -> both(at + " rightShare", () -> real.rightShare(), () -> plain.rightShare());
        }
    }

    private static void compareAll(String at) {
        for (int number = -1; number < 18; number++) {
            int what = number;
            both(at + " account " + what, () -> real.account(what), () -> plain.account(what));
            both(at + " reason " + what, () -> real.reason(what), () -> plain.reason(what));
        }
        for (int number = 0; number < 6; number++) {
            int camel = number;
            both(at + " lostIn", () -> real.lostIn(camel), () -> plain.lostIn(camel));
            for (int number2 = 0; number2 < 5; number2++) {
                int what = number2;
                both(at + " camelOf " + what, () -> real.camelOf(camel, what), () -> plain.camelOf(camel, what));
            }
        }
        for (int number = 0; number < 10; number++) {
            int stake = number;
            both(at + " bestPost", () -> real.bestPost(stake), () -> plain.bestPost(stake));
            for (int number2 = 0; number2 < 4; number2++) {
                int post = number2;
                both(at + " seems", () -> real.seems(stake, post), () -> plain.seems(stake, post));
                both(at + " clearIn", () -> real.clearIn(stake, post), () -> plain.clearIn(stake, post));
            }
        }
        for (int number = 0; number < 3; number++) {
            int sheet = number;
            both(at + " line", () -> real.line(sheet), () -> plain.line(sheet));
            for (int number2 = 0; number2 < 70; number2++) {
                int index = number2;
                both(at + " character", () -> real.character(index), () -> plain.character(index));
            }
        }
        both(at + " meanThirst", () -> real.meanThirst(), () -> plain.meanThirst());
        both(at + " rightShare", () -> real.rightShare(), () -> plain.rightShare());
        both(at + " faultPosition", () -> real.faultPosition(), () -> plain.faultPosition());
    }
}
