/** All that can be seen of an object without changing it: two objects in one state give one text. */
final class Look {
    private static final int ACCOUNTS = 15;
    private static final int LONGEST_LINE = 80;

    private Look() {
    }

    /** What can be undone. */
    static String flat(MirageSurvey x) {
        StringBuilder seen = new StringBuilder();
        for (int what = 0; what < ACCOUNTS; what++) {
            seen.append(x.account(what)).append(' ');
        }
        for (int stake = 0; stake < x.account(4); stake++) {
            seen.append("\nstake ").append(x.stakeAt(stake));
            for (int sheet = 0; sheet < x.account(6); sheet++) {
                int drawn = stake;
                int on = sheet;
                seen.append(" drawn ").append(Check.answer(() -> x.drawnAt(drawn, on)));
            }
        }
        for (int post = 0; post < x.account(5); post++) {
            seen.append("\npost ").append(x.postOf(post, false)).append(' ').append(x.postOf(post, true));
        }
        for (int camel = 0; camel < x.account(8); camel++) {
            seen.append("\ncamel");
            for (int what = 0; what < 5; what++) {
                seen.append(' ').append(x.camelOf(camel, what));
            }
        }
        return seen.toString();
    }

    /** The line that is written. */
    static String line(MirageSurvey x) {
        StringBuilder seen = new StringBuilder();
        for (int index = 0; index < LONGEST_LINE; index++) {
            int at = index;
            seen.append(Check.answer(() -> x.character(at)).toString().charAt(0));
        }
        return seen.toString();
    }

    static String reason(MirageSurvey x) {
        return Check.answer(() -> x.reason(0)) + " " + Check.answer(() -> x.reason(1)) + " "
            + Check.answer(() -> x.reason(2));
    }

    /** Everything but the reason: what no refused change may move. */
    static String allButReason(MirageSurvey x) {
        return flat(x) + "\nundo " + x.account(15) + " text " + x.account(16) + " fault " + x.faultPosition()
            + " line " + line(x);
    }

    static String all(MirageSurvey x) {
        return allButReason(x) + " reason " + reason(x);
    }
}
