import java.util.NoSuchElementException;

/** RINGS and RESTS (promises 25, 26). */
final class BellTest {
    private static final String VERBS = "places 2;verb u 1;verb v 1;verb w 1;";
    private static final Due DUE = new Due("BellTest");

    public static void main(String[] args) {
        rings();
        rests();
        equalRests();
        sixVerbs();
        threeSpeakers();
        DUE.end();
    }

    private static void rung(OneVerb x, int digits, int due) {
        int got;
        try {
            got = x.rings(digits);
        } catch (NoSuchElementException e) {
            got = -99;
        }
        DUE.is("rings(" + digits + ")", got, due);
    }

    private static void rings() {
        OneVerb x = DUE.in(VERBS + "week u silent w;speaker p wants u 5;speaker q wants v 4;speaker r wants w 9;");
        rung(x, 0, -1);
        rung(x, 1, 0);
        rung(x, 3 * 64, 2);
        rung(x, 2 + 8 * 2 + 64, 1);
        rung(x, 1 + 8 * 2 + 64 * 3, 0);
        rung(x, 3 + 8 * 2, 1);
        rung(x, 3 + 8 + 64 * 3, 2);
        rung(x, 3 + 8 * 3 + 64 * 3, 2);
        rung(x, 4, -99);
        rung(x, 8 * 4, -99);
        rung(x, 64 * 4, -99);
        rung(x, 512, -99);
        rung(x, -1, -99);
        rung(x, Integer.MIN_VALUE, -99);
        rung(x, Integer.MAX_VALUE, -99);
        x.dawn(1);
        rung(x, 0, 2);
        OneVerb turns = DUE.in(VERBS + "speaker p wants u 5;");
        rung(turns, 0, 1);
        rung(turns, 8, -99);
        OneVerb none = DUE.in(VERBS);
        rung(none, 0, 1);
        rung(none, 1, -99);
        OneVerb silent = DUE.in("places 2;");
        rung(silent, 0, -1);
        rung(silent, 1, -99);
    }

    private static void rest(OneVerb x, int... due) {
        DUE.is("rests(-1)", x.rests(-1), due.length);
        for (int i = 0; i < due.length; i++) {
            DUE.is("rests(" + i + ")", x.rests(i), due[i]);
        }
        DUE.is("rests(" + due.length + ")", x.rests(due.length), -1);
        DUE.is("rests(-2)", x.rests(-2), -1);
    }

    private static void rests() {
        rest(DUE.in(VERBS + "week u silent;speaker p wants u 5;bribe 2;"), 1);
        rest(DUE.in(VERBS + "week u silent;speaker p wants u 5 w 6;bribe 2;"), 3);
        rest(DUE.in(VERBS + "week v u;speaker p wants u 5;bribe 2;"), 0);
        rest(DUE.in(VERBS + "week u silent;speaker p wants u 5;bribe 6;"), 0);
        rest(DUE.in(VERBS + "week u silent;speaker p wants u 5;speaker q wants v 4;"), 1);
        // p lets q ring for what both want; and q lets p.
        rest(DUE.in(VERBS + "week u silent;speaker p wants v 5;speaker q wants v 4;"), 2, 16);
        // Of equal ones the least is rung: q can't win against p, and does not try.
        rest(DUE.in("places 2;verb u 1;verb v 1;week u v;speaker p wants u 9;speaker q wants v 9;bribe 1;"), 1);
        // p goes from w to u when q rings for v, q stops then, p goes back to w, and so on: nobody rests.
        rest(DUE.in(VERBS + "week u v silent u;speaker p wants u 5 w 9;speaker q wants v 4;bribe 2;"));
        OneVerb none = DUE.in(VERBS);
        DUE.is("rests(-1) without speakers", none.rests(-1), -1);
        DUE.is("rests(0) without speakers", none.rests(0), -1);
    }

    private static void equalRests() {
        rest(DUE.in(VERBS + "week u silent;speaker p wants u 5;bribe 5;"), 0, 1);
        rest(DUE.in(VERBS + "week u silent;speaker p wants u 0;bribe 0;"), 0, 1, 2, 3);
        OneVerb all = DUE.in("places 2;verb u 1;week u;speaker p wants u 1;speaker q wants u 1;speaker r wants u 1;bribe 0;");
        rest(all, 0, 1, 8, 9, 64, 65, 72, 73);
    }

    /** Each digit may be up to the VERBS, those behind the SPEAKERS must be 0. */
    private static void sixVerbs() {
        String land = "places 2;verb u 1;verb v 1;verb w 1;verb x 1;verb y 1;verb z 1;week silent;speaker p wants z 1;";
        OneVerb one = DUE.in(land);
        OneVerb two = DUE.in(land + "speaker q wants y 1;");
        OneVerb three = DUE.in(land + "speaker q wants y 1;speaker r wants x 1;");
        for (int digit = 0; digit < 8; digit++) {
            int due = digit > 6 ? -99 : digit - 1;
            rung(one, digit, due);
            rung(one, digit * 8, digit == 0 ? -1 : -99);
            rung(two, digit, due);
            rung(two, digit * 8, due);
            rung(two, digit * 64, digit == 0 ? -1 : -99);
            rung(three, digit, due);
            rung(three, digit * 8, due);
            rung(three, digit * 64, due);
            rung(three, digit * 512, digit == 0 ? -1 : -99);
            rung(three, digit + 8 * digit, due);
            rung(three, 6 + 64 * digit + 8 * digit, digit == 0 ? 5 : due);
        }
        rung(three, 6 + 8 * 5 + 64 * 4, 3);
        rung(three, 4 + 8 * 5 + 64 * 6, 3);
        rung(three, 5 + 8 * 6 + 64 * 6, 5);
    }

    /** RESTS reckoned here by hand, of worths by SPEAKER and VERB; tomorrow is SILENT, or tells a VERB. */
    private static void threeSpeakers() {
        int[][][] worths = {{{9, 0, 0}, {0, 9, 0}, {0, 0, 9}}, {{0, 0, 5}, {0, 0, 0}, {0, 0, 5}},
            {{1, 2, 3}, {3, 1, 2}, {2, 3, 1}}, {{0, 0, 0}, {0, 0, 0}, {0, 0, 7}}, {{4, 4, 4}, {0, 99, 99}, {7, 0, 8}},
            {{0, 8, 0}, {6, 0, 0}, {0, 8, 6}}};
        for (int[][] worth : worths) {
            for (int bribe : new int[] {0, 1, 3, 99}) {
                for (int tomorrow = -1; tomorrow < 3; tomorrow++) {
                    byHand(worth, bribe, tomorrow);
                }
            }
        }
    }

    private static void byHand(int[][] worth, int bribe, int tomorrow) {
        StringBuilder land = new StringBuilder(VERBS + "week u " + (tomorrow < 0 ? "silent" : "" + "uvw".charAt(tomorrow)));
        for (int s = 0; s < 3; s++) {
            land.append(";speaker ").append("pqr".charAt(s)).append(" wants u ").append(worth[s][0]).append(" v ")
                .append(worth[s][1]).append(" w ").append(worth[s][2]);
        }
        OneVerb x = DUE.in(land.append(";bribe ").append(bribe).append(";").toString());
        int found = 0;
        for (int r = 0; r < 4; r++) {
            for (int q = 0; q < 4; q++) {
                for (int p = 0; p < 4; p++) {
                    if (isRest(new int[] {p, q, r}, worth, bribe, tomorrow)) {
                        DUE.is("rests(" + found + ") of " + land, x.rests(found), p + 8 * q + 64 * r);
                        found++;
                    }
                }
            }
        }
        DUE.is("rests(-1) of " + land, x.rests(-1), found);
        DUE.is("rests(" + found + ") of " + land, x.rests(found), -1);
    }

    private static boolean isRest(int[] choices, int[][] worth, int bribe, int tomorrow) {
        for (int s = 0; s < 3; s++) {
            int own = choices[s];
            int has = has(s, choices, worth, bribe, tomorrow);
            boolean better = false;
            for (int other = 0; other < 4; other++) {
                choices[s] = other;
                better |= has(s, choices, worth, bribe, tomorrow) > has;
            }
            choices[s] = own;
            if (better) {
                return false;
            }
        }
        return true;
    }

    private static int has(int s, int[] choices, int[][] worth, int bribe, int tomorrow) {
        int verb = tomorrow;
        int most = 0;
        for (int v = 0; v < 3; v++) {
            int many = 0;
            for (int choice : choices) {
                many += choice == v + 1 ? 1 : 0;
            }
            if (many > most) {
                most = many;
                verb = v;
            }
        }
        return (verb < 0 ? 0 : worth[s][verb]) - (choices[s] > 0 ? bribe : 0);
    }
}
