import java.util.NoSuchElementException;

/** RINGS and RESTS (promises 25, 26). */
final class BellTest {
    private static final String VERBS = "places 2;verb u 1;verb v 1;verb w 1;";
    private static final Due DUE = new Due("BellTest");

    public static void main(String[] args) {
        rings();
        rests();
        equalRests();
        DUE.end();
    }

    private static void rung(OneVerb x, int digits, int due) {
        int got;
        try {
            got = x.rings(digits);
        } catch (NoSuchElementException e) {
            got = -99;
        }
        DUE.is("rings(" + digits + ")", got, due);
    }

    private static void rings() {
        OneVerb x = DUE.in(VERBS + "week u silent w;speaker p wants u 5;speaker q wants v 4;speaker r wants w 9;");
        rung(x, 0, -1);
        rung(x, 1, 0);
        rung(x, 3 * 64, 2);
        rung(x, 2 + 8 * 2 + 64, 1);
        rung(x, 1 + 8 * 2 + 64 * 3, 0);
        rung(x, 3 + 8 * 2, 1);
        rung(x, 3 + 8 + 64 * 3, 2);
        rung(x, 3 + 8 * 3 + 64 * 3, 2);
        rung(x, 4, -99);
        rung(x, 8 * 4, -99);
        rung(x, 64 * 4, -99);
        rung(x, 512, -99);
        rung(x, -1, -99);
        rung(x, Integer.MIN_VALUE, -99);
        rung(x, Integer.MAX_VALUE, -99);
        x.dawn(1);
        rung(x, 0, 2);
        OneVerb turns = DUE.in(VERBS + "speaker p wants u 5;");
        rung(turns, 0, 1);
        rung(turns, 8, -99);
        OneVerb none = DUE.in(VERBS);
        rung(none, 0, 1);
        rung(none, 1, -99);
        OneVerb silent = DUE.in("places 2;");
        rung(silent, 0, -1);
        rung(silent, 1, -99);
    }

    private static void rest(OneVerb x, int... due) {
        DUE.is("rests(-1)", x.rests(-1), due.length);
        for (int i = 0; i < due.length; i++) {
            DUE.is("rests(" + i + ")", x.rests(i), due[i]);
        }
        DUE.is("rests(" + due.length + ")", x.rests(due.length), -1);
        DUE.is("rests(-2)", x.rests(-2), -1);
    }

    private static void rests() {
        rest(DUE.in(VERBS + "week u silent;speaker p wants u 5;bribe 2;"), 1);
        rest(DUE.in(VERBS + "week u silent;speaker p wants u 5 w 6;bribe 2;"), 3);
        rest(DUE.in(VERBS + "week v u;speaker p wants u 5;bribe 2;"), 0);
        rest(DUE.in(VERBS + "week u silent;speaker p wants u 5;bribe 6;"), 0);
        rest(DUE.in(VERBS + "week u silent;speaker p wants u 5;speaker q wants v 4;"), 1);
        // p lets q ring for what both want; and q lets p.
        rest(DUE.in(VERBS + "week u silent;speaker p wants v 5;speaker q wants v 4;"), 2, 16);
        // Of equal ones the least is rung: q can't win against p, and does not try.
        rest(DUE.in("places 2;verb u 1;verb v 1;week u v;speaker p wants u 9;speaker q wants v 9;bribe 1;"), 1);
        // p goes from w to u when q rings for v, q stops then, p goes back to w, and so on: nobody rests.
        rest(DUE.in(VERBS + "week u v silent u;speaker p wants u 5 w 9;speaker q wants v 4;bribe 2;"));
        OneVerb none = DUE.in(VERBS);
        DUE.is("rests(-1) without speakers", none.rests(-1), -1);
        DUE.is("rests(0) without speakers", none.rests(0), -1);
    }

    private static void equalRests() {
        rest(DUE.in(VERBS + "week u silent;speaker p wants u 5;bribe 5;"), 0, 1);
        rest(DUE.in(VERBS + "week u silent;speaker p wants u 0;bribe 0;"), 0, 1, 2, 3);
        OneVerb all = DUE.in("places 2;verb u 1;week u;speaker p wants u 1;speaker q wants u 1;speaker r wants u 1;bribe 0;");
        rest(all, 0, 1, 8, 9, 64, 65, 72, 73);
    }
}
