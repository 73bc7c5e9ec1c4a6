import java.util.ArrayList;
import java.util.List;

/** What undo, MARKS, refused calls and a new LAND leave of all the answers (promises 3 to 9, 29, 32, 33). */
final class HistoryTest {
    private static final String LAND = "places 3;thing a weigh 4;thing b weigh 9;bend f place+1;bend zero 0;"
        + "verb at first=second;verb up first<second;week at up silent at;"
        + "speaker p wants at 5;speaker q wants up 4 at 1;bribe 2;";
    /** Each holds in another number of WORLDS by at. */
    private static final String[] FORMULAS = {"a b;", "not a b;", "a a;", "not a a;", "a zero b and b zero a;",
        "a zero b and not b zero a;", "not (a zero b and b zero a);", "a zero b or b zero a;"};
    private static final Due DUE = new Due("HistoryTest");

    public static void main(String[] args) {
        undoGoesBackStepByStep();
        undoOfWhatWasUnsaid();
        undoKeepsTheLastTwelve();
        dawnEndsUndo();
        marksHoldAll();
        marksOfTheirOwn();
        marksOfUnlikeDeeds();
        refusedCallsLeaveAll();
        landAgain();
        landAgainBehindFaults();
        longLandsAgain();
        DUE.end();
    }

    /** A deed of many kinds, told by its number. */
    private static void deed(OneVerb x, int i) {
        if (i % 5 == 3) {
            DUE.is("unsay() " + i, x.unsay(i % 3), true);
        } else if (i % 7 == 4 && x.count(8) < 4) {
            DUE.is("order() " + i, Due.order(x, FORMULAS[i % 8], 1 + i % 6), 0);
        } else {
            DUE.is("say() " + i, Due.say(x, FORMULAS[i % 8]), 0);
        }
    }

    /** The SAYINGS and ORDERS alone, in 19 calls at most: an object is used for 512. */
    private static String sayings(OneVerb x) {
        StringBuilder all = new StringBuilder();
        int said = x.count(7);
        for (int i = 0; i < said; i++) {
            all.append(' ').append(x.saying(i, 1));
        }
        all.append(" ordered");
        int orders = x.count(8);
        for (int i = 0; i < orders; i++) {
            all.append(' ').append(x.ordered(i, 1));
        }
        return all.append(" left ").append(x.worlds(1)).toString();
    }

    private static void undoGoesBackStepByStep() {
        for (int deeds = 1; deeds <= 12; deeds++) {
            OneVerb x = DUE.in(LAND);
            List<String> before = new ArrayList<>();
            for (int i = 0; i < deeds; i++) {
                before.add(sayings(x));
                deed(x, i);
                DUE.is("count(11) behind deed " + i, x.count(11), i + 1);
            }
            for (int i = deeds - 1; i >= 0; i--) {
                DUE.is("undo() of deed " + i, x.undo(), true);
                DUE.is("what undo() leaves of deed " + i, sayings(x), before.get(i));
                DUE.is("count(11) behind undo " + i, x.count(11), i);
            }
            DUE.is("undo() of none", x.undo(), false);
        }
    }

    /** What was UNSAID comes back to its place: first, between, last, and among twelve. */
    private static void undoOfWhatWasUnsaid() {
        OneVerb x = DUE.in(LAND);
        for (int i = 0; i < 12; i++) {
            Due.say(x, FORMULAS[i % 8]);
        }
        String full = sayings(x);
        for (int saying : new int[] {0, 5, 11}) {
            DUE.is("unsay(" + saying + ") of twelve", x.unsay(saying), true);
            DUE.is("undo() of unsay(" + saying + ")", x.undo(), true);
            DUE.is("twelve behind undo() of unsay(" + saying + ")", sayings(x), full);
        }
        x.unsay(11);
        x.unsay(0);
        DUE.is("say() where one was UNSAID", Due.say(x, "a a;"), 0);
        DUE.is("undo() of say()", x.undo(), true);
        DUE.is("undo() of unsay(0)", x.undo(), true);
        DUE.is("undo() of unsay(11)", x.undo(), true);
        DUE.is("twelve behind all these", sayings(x), full);
    }

    private static void undoKeepsTheLastTwelve() {
        OneVerb x = DUE.in(LAND);
        List<String> before = new ArrayList<>();
        for (int i = 0; i < 19; i++) {
            before.add(sayings(x));
            deed(x, i);
            DUE.is("count(11) behind deed " + i, x.count(11), Math.min(i + 1, 12));
        }
        for (int i = 18; i >= 7; i--) {
            DUE.is("undo() of deed " + i + " of 19", x.undo(), true);
            DUE.is("what undo() leaves of deed " + i + " of 19", sayings(x), before.get(i));
        }
        DUE.is("undo() of the thirteenth from the last", x.undo(), false);
        DUE.is("what is left of 19 deeds", sayings(x), before.get(7));
        deed(x, 7);
        DUE.is("undo() of a deed behind all that", x.undo(), true);
        DUE.is("what that leaves", sayings(x), before.get(7));
        DUE.is("undo() of none", x.undo(), false);
    }

    private static void dawnEndsUndo() {
        OneVerb x = DUE.in(LAND);
        Due.say(x, "a b;");
        Due.order(x, "a b;", 9);
        x.dawn(1);
        DUE.is("undo() behind dawn", x.undo(), false);
        Due.say(x, "a a;");
        x.unsay(0);
        String told = sayings(x);
        DUE.is("undo() of what was SAID on an earlier day", x.undo(), true);
        DUE.is("saying(0, 0): its day", x.saying(0, 0), 0);
        DUE.is("saying(1, 0): its day", x.saying(1, 0), 1);
        x.unsay(0);
        DUE.is("what was UNSAID once more", sayings(x), told);
        x.dawn(1);
        DUE.is("undo() behind another dawn", x.undo(), false);
        DUE.is("what stays UNSAID", x.count(7), 1);
    }

    /** Four states, far from one another. */
    private static void goOn(OneVerb x, int i) {
        Due.say(x, FORMULAS[(i + 1) % 8]);
        Due.order(x, FORMULAS[(i + 5) % 8], 1 + i);
        Due.ask(x, FORMULAS[(i + 4) % 8]);
        x.see(i, i, i % 2 == 0);
        x.see(4, 3 + i, i % 2 == 1);
        if (i == 2) {
            x.unsay(0);
        }
    }

    private static void marksHoldAll() {
        for (int mark = 0; mark < 4; mark++) {
            OneVerb x = DUE.in(LAND);
            for (int i = 0; i <= mark; i++) {
                goOn(x, i);
                x.dawn(1 + 2 * i);
            }
            goOn(x, mark + 1);
            String before = Look.at(x);
            DUE.is("mark(" + mark + ", false)", x.mark(mark, false), true);
            DUE.is("what mark(" + mark + ", false) leaves", Look.at(x), before);
            x.undo();
            x.undo();
            for (int i = 0; i < 3; i++) {
                x.dawn(3);
                goOn(x, 7 - i);
            }
            DUE.is("mark(" + mark + ", true)", x.mark(mark, true), true);
            DUE.is("count(11) behind mark(" + mark + ", true)", x.count(11), 0);
            DUE.is("what mark(" + mark + ", true) leaves", Look.butUndo(x), before.replaceFirst("undone=\\d+", "undone=?"));
        }
    }

    /** One MARK does not touch another, nor what comes behind it the MARK. */
    private static void marksOfTheirOwn() {
        OneVerb x = DUE.in(LAND);
        String[] marked = new String[4];
        for (int i = 0; i < 4; i++) {
            DUE.is("mark(" + i + ", true) ahead of its laying", x.mark(i, true), false);
            Due.say(x, FORMULAS[i]);
            Due.order(x, FORMULAS[7 - i], 1 + i);
            marked[i] = sayings(x);
            x.mark(i, false);
        }
        for (int i : new int[] {2, 0, 3, 1, 1, 2}) {
            DUE.is("mark(" + i + ", true)", x.mark(i, true), true);
            DUE.is("what mark(" + i + ", true) leaves", sayings(x), marked[i]);
            x.unsay(0);
            x.dawn(4);
            Due.say(x, "not a a;");
        }
    }

    /** The first ORDER and the first that is SEEN are other ones in each MARK. */
    private static void marksOfUnlikeDeeds() {
        OneVerb x = DUE.in(LAND);
        for (int i = 0; i < 4; i++) {
            Due.order(x, FORMULAS[i], 1 + i);
            Due.say(x, FORMULAS[3 - i]);
            x.mark(i, false);
            x.undo();
            x.undo();
        }
        for (int i = 3; i >= 0; i--) {
            DUE.is("mark(" + i + ", true)", x.mark(i, true), true);
            DUE.is("ordered(0, 0) of mark " + i, x.ordered(0, 0), 1 + i);
            DUE.is("count(8) of mark " + i, x.count(8), 1);
            DUE.is("count(7) of mark " + i, x.count(7), 1);
        }
        OneVerb y = DUE.in(LAND);
        y.mark(0, false);
        DUE.is("see() by at alone", y.see(4, 0, true), true);
        y.mark(1, false);
        y.mark(0, true);
        DUE.is("see() by up alone", y.see(4, 1, true), true);
        y.mark(2, false);
        int[] known = {3, 1, 2};
        for (int i : new int[] {1, 0, 2, 1, 2, 0}) {
            y.mark(i, true);
            DUE.is("knows() of mark " + i, y.knows(), known[i]);
            DUE.is("count(10) of mark " + i, y.count(10), i == 0 ? 0 : 1);
        }
    }

    /** A call that refuses leaves all as it is, but the TAPE, where it was read. */
    private static void refusedCallsLeaveAll() {
        OneVerb x = DUE.in(LAND);
        goOn(x, 0);
        x.dawn(4);
        goOn(x, 1);
        x.mark(1, false);
        String before = Look.at(x);
        x.dawn(0);
        x.dawn(1001);
        x.unsay(-1);
        x.unsay(2);
        x.mark(0, true);
        x.mark(4, false);
        x.mark(-1, true);
        x.see(3, 0, true);
        x.see(400, 0, true);
        x.see(0, 9, true);
        x.see(0, -1, true);
        Due.land(x, "places 2;thing a weigh 1;verb v 1;week v;bribe 9;speaker s wants v 1;thing a");
        Due.land(x, "places 4;thing a weigh 1;bend");
        Due.land(x, "");
        Due.say(x, "a b");
        Due.say(x, "a c;");
        Due.ask(x, "a b;;");
        Due.ask(x, "b");
        Due.order(x, "a b", 2);
        Due.order(x, "a b;", 0);
        Due.order(x, "a b;", 100);
        DUE.is("all behind refused calls", Look.at(x), before);
        DUE.is("undo() behind refused calls", x.undo(), true);
        DUE.is("count(8): the ORDER is gone", x.count(8), 1);
        DUE.is("mark(1, true) behind refused calls", x.mark(1, true), true);
    }

    private static final String[] LANDS = {LAND, "places 2;", "places 4;thing a weigh 1;verb v 1;",
        "places 2;thing a weigh 1;thing b weigh 2;thing c weigh 3;verb at first=second;verb up first<second;"
            + "verb top first+second=2;speaker s wants up 3;",
        "places 2;bend f 1-place;thing a weigh 1;verb v first;week silent v;speaker s wants v 9;speaker t wants v 1;bribe 0;",
        "places 3;thing b weigh 7;thing a weigh 9;verb up second<first;"};

    /** Each LAND told behind each other is as it is in a new object. */
    private static void landAgain() {
        for (String land : LANDS) {
            String fresh = Look.at(DUE.in(land));
            for (String other : LANDS) {
                OneVerb x = DUE.in(other);
                goOn(x, 0);
                for (int i = 0; i < 4; i++) {
                    x.mark(i, false);
                }
                x.sayable(0, 0);
                x.dawn(7);
                goOn(x, 3);
                DUE.is("land() of " + land + " behind " + other, Due.land(x, land), 0);
                DUE.is("all of " + land + " behind " + other, Look.at(x), fresh);
                for (int i = 0; i < 4; i++) {
                    DUE.is("mark(" + i + ", true) of the land ahead", x.mark(i, true), false);
                }
            }
        }
    }

    /** What a wrong LAND had told ahead of its FAULT is forgotten. */
    private static void landAgainBehindFaults() {
        String wrong = "places 4;thing z weigh 1;thing y weigh 2;bend x place;verb w 1;verb v 0;week w v;bribe 7;"
            + "speaker u wants w 9;week w;";
        for (String land : LANDS) {
            String fresh = Look.at(DUE.in(land));
            OneVerb x = new OneVerb();
            DUE.is("land() of " + wrong, Due.land(x, wrong), 3 + 16 * wrong.lastIndexOf("week"));
            DUE.is("all of a new object behind a FAULT", Look.at(x), Look.at(new OneVerb()));
            DUE.is("land() of " + land + " behind a FAULT", Due.land(x, land), 0);
            DUE.is("all of " + land + " behind a FAULT", Look.at(x), fresh);
        }
    }

    /** The laws of one LAND take no room from the next one's. */
    private static void longLandsAgain() {
        OneVerb x = new OneVerb();
        for (int i = 0; i < 9; i++) {
            StringBuilder land = new StringBuilder("places 3;thing a weigh 1;bend f place;verb v 0");
            while (land.length() < 960) {
                land.append("+0");
            }
            land.append("+(first=").append(i % 3).append(");verb w 1;");
            DUE.is("land() of " + land.length() + " signs", Due.land(x, land.toString()), 0);
            for (int world = 0; world < 3; world++) {
                DUE.is("holds(0, 0, " + world + ") of land " + i, x.holds(0, 0, world), world == i % 3 ? 1 : 0);
                DUE.is("holds(20, 1, " + world + ") of land " + i, x.holds(20, 1, world), 1);
            }
        }
    }
}
