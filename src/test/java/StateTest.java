/** What is SAID, ORDERED, UNSAID, undone, dawns and MARKS (promises 4, 5, 7 to 15, 33, 34). */
final class StateTest {
    /** DAY 0: {0, 3} for a b by at; DAY 1: {1} by up; without a week, so these two in turn. */
    private static final String TURNS = "places 2;thing a weigh 4;thing b weigh 9;verb at first=second;"
        + "verb up first<second;";
    private static final Due DUE = new Due("StateTest");

    public static void main(String[] args) {
        lands();
        sayings();
        twelveAtMost();
        unsaid();
        undone();
        orders();
        ordersStay();
        silentOrders();
        dawns();
        weeks();
        farDays();
        marks();
        newLand();
        DUE.end();
    }

    private static void lands() {
        OneVerb x = DUE.in("places 4;verb v 1;verb w 1;bribe 7;thing a weigh 0;speaker s wants w 3;bend f 1;"
            + "week w silent v;thing b weigh 99;speaker t wants v 0;");
        int[] counts = {4, 2, 1, 2, 2, 3, 0, 0, 0, 0, 0, 0, 7, 0};
        for (int what = 0; what < counts.length; what++) {
            DUE.is("count(" + what + ")", x.count(what), counts[what]);
        }
        DUE.is("count(-1)", x.count(-1), -1);
        DUE.is("count(14)", x.count(14), -1);
        DUE.is("thing(0)", x.thing(0), 0);
        DUE.is("thing(1)", x.thing(1), 99);
        DUE.is("thing(2)", x.thing(2), -1);
        DUE.is("thing(-1)", x.thing(-1), -1);
        int[] verbs = {1, -1, 0, 1, -1, 0};
        for (int day = 0; day < verbs.length; day++) {
            DUE.is("verb(" + day + ")", x.verb(day), verbs[day]);
        }
        DUE.is("verb(-3)", x.verb(-3), -1);
        DUE.is("verb(2147483647)", x.verb(Integer.MAX_VALUE), -1);
        DUE.is("worlds(0)", x.worlds(0), 16);
        OneVerb turns = DUE.in(TURNS);
        DUE.is("verb(0) in turn", turns.verb(0), 0);
        DUE.is("verb(5) in turn", turns.verb(5), 1);
        OneVerb none = DUE.in("places 2;thing a weigh 1;");
        DUE.is("verb(0) without verbs", none.verb(0), -1);
        DUE.is("say() without verbs", Due.say(none, "a a;"), -2);
        OneVerb wordless = DUE.in("places 2;thing a weigh 1;week silent silent;");
        DUE.is("count(5)", wordless.count(5), 2);
        DUE.is("verb(1)", wordless.verb(1), -1);
    }

    private static void sayings() {
        OneVerb x = DUE.in(TURNS);
        DUE.is("worlds(1)", x.worlds(1), 4);
        DUE.is("say()", Due.say(x, "a b;"), 0);
        DUE.is("worlds(1)", x.worlds(1), 2);
        int[] left = {1, 0, 0, 1};
        for (int world = 0; world < 4; world++) {
            DUE.is("left(" + world + ")", x.left(world), left[world]);
        }
        DUE.is("left(4)", x.left(4), -1);
        DUE.is("left(-1)", x.left(-1), -1);
        DUE.is("worlds(2)", x.worlds(2), -1);
        DUE.is("worlds(-1)", x.worlds(-1), -1);
        x.dawn(1);
        DUE.is("say() tomorrow", Due.say(x, "not b a;"), 0);
        DUE.is("worlds(1)", x.worlds(1), 2);
        DUE.is("saying(0, 0)", x.saying(0, 0), 0);
        DUE.is("saying(0, 1)", x.saying(0, 1), 2);
        DUE.is("saying(1, 0)", x.saying(1, 0), 1);
        DUE.is("saying(1, 1)", x.saying(1, 1), 3);
        DUE.is("saying(2, 0)", x.saying(2, 0), -1);
        DUE.is("saying(-1, 0)", x.saying(-1, 0), -1);
        DUE.is("saying(0, 2)", x.saying(0, 2), -1);
        DUE.is("saying(0, -1)", x.saying(0, -1), -1);
    }

    private static void twelveAtMost() {
        OneVerb x = DUE.in("places 2;thing a weigh 1;verb v 1;week v silent;");
        for (int i = 0; i < 12; i++) {
            DUE.is("say() " + i, Due.say(x, "a a;"), 0);
        }
        DUE.is("say() of a thirteenth", Due.say(x, "a a;"), -3);
        DUE.is("say() of a wrong thirteenth", Due.say(x, "a b;"), 2 + 16 * 2);
        DUE.is("count(7)", x.count(7), 12);
        x.dawn(1);
        DUE.is("say() of a thirteenth on a silent day", Due.say(x, "a a;"), -2);
        DUE.is("say() of a wrong one on a silent day", Due.say(x, "a"), 1 + 16);
        DUE.is("unsay(11)", x.unsay(11), true);
        x.dawn(1);
        DUE.is("say() of a twelfth", Due.say(x, "a a;"), 0);
        DUE.is("saying(11, 0)", x.saying(11, 0), 2);
    }

    private static void unsaid() {
        OneVerb x = DUE.in(TURNS);
        for (int i = 0; i < 4; i++) {
            Due.say(x, i == 2 ? "not a b;" : "a b;");
            x.dawn(1);
        }
        DUE.is("worlds(1)", x.worlds(1), 0);
        DUE.is("unsay(4)", x.unsay(4), false);
        DUE.is("unsay(-1)", x.unsay(-1), false);
        DUE.is("unsay(1)", x.unsay(1), true);
        DUE.is("count(7)", x.count(7), 3);
        int[] days = {0, 2, 3, -1};
        for (int i = 0; i < 4; i++) {
            DUE.is("saying(" + i + ", 0)", x.saying(i, 0), days[i]);
        }
        DUE.is("undo()", x.undo(), true);
        for (int i = 0; i < 4; i++) {
            DUE.is("saying(" + i + ", 0) behind undo()", x.saying(i, 0), i);
        }
        x.unsay(0);
        x.unsay(1);
        DUE.is("worlds(1) of two", x.worlds(1), 1);
        DUE.is("left(1)", x.left(1), 1);
    }

    private static void undone() {
        OneVerb x = DUE.in(TURNS);
        DUE.is("undo() at first", x.undo(), false);
        for (int i = 0; i < 12; i++) {
            Due.say(x, "a b;");
        }
        x.unsay(0);
        DUE.is("count(11)", x.count(11), 12);
        for (int i = 0; i < 12; i++) {
            DUE.is("undo() " + i, x.undo(), true);
            DUE.is("count(7)", x.count(7), 12 - i);
        }
        DUE.is("undo() of a thirteenth", x.undo(), false);
        DUE.is("count(11)", x.count(11), 0);
        Due.order(x, "a b;", 3);
        Due.say(x, "a b;");
        DUE.is("count(11)", x.count(11), 2);
        x.undo();
        DUE.is("count(8)", x.count(8), 1);
        x.undo();
        DUE.is("count(8)", x.count(8), 0);
        DUE.is("count(7)", x.count(7), 1);
        Due.ask(x, "a b;");
        x.see(0, 0, true);
        DUE.is("count(11) behind ask() and see()", x.count(11), 0);
        DUE.is("unsay of none", x.unsay(5), false);
        DUE.is("count(11) behind a call that did nothing", x.count(11), 0);
        Due.say(x, "a b;");
        DUE.is("dawn(0)", x.dawn(0), -1);
        DUE.is("count(11)", x.count(11), 1);
        x.dawn(1);
        DUE.is("count(11) behind dawn", x.count(11), 0);
        DUE.is("undo() behind dawn", x.undo(), false);
    }

    private static void orders() {
        OneVerb x = DUE.in(TURNS);
        DUE.is("order(0)", Due.order(x, "a b;", 0), -2);
        DUE.is("order(100)", Due.order(x, "a b;", 100), -2);
        DUE.is("order(-1)", Due.order(x, "a b;", -1), -2);
        DUE.is("order(0) of a wrong one", Due.order(x, "a b", 0), 1 + 16 * 3);
        DUE.is("order(1)", Due.order(x, "a b;", 1), 0);
        DUE.is("order(99)", Due.order(x, "b a;", 99), 0);
        DUE.is("order(2)", Due.order(x, "a b;", 2), 0);
        DUE.is("order(3)", Due.order(x, "not a b or a a;", 3), 0);
        DUE.is("order(4) of a fifth", Due.order(x, "a b;", 4), -3);
        DUE.is("order(0) of a fifth", Due.order(x, "a b;", 0), -2);
        int[][] due = {{1, 1, 1, 1}, {99, 1, 1, 2}, {2, 2, 0, -1}, {3, 3, 0, -1}};
        for (int order = 0; order < 4; order++) {
            for (int what = 0; what < 4; what++) {
                DUE.is("ordered(" + order + ", " + what + ")", x.ordered(order, what), due[order][what]);
            }
        }
        DUE.is("ordered(0, 4)", x.ordered(0, 4), -1);
        DUE.is("ordered(0, -1)", x.ordered(0, -1), -1);
        DUE.is("ordered(4, 0)", x.ordered(4, 0), -1);
        DUE.is("ordered(-1, 0)", x.ordered(-1, 0), -1);
        for (int what = 3; what >= 0; what--) {
            for (int order = 3; order >= 0; order--) {
                DUE.is("ordered(" + order + ", " + what + ") once more", x.ordered(order, what), due[order][what]);
            }
        }
        DUE.is("worlds(1) ahead of all", x.worlds(1), 4);
        x.dawn(1);
        DUE.is("worlds(1) on day 1", x.worlds(1), 1);
        DUE.is("left(1) on day 1", x.left(1), 1);
        x.dawn(1);
        DUE.is("worlds(1) on day 2", x.worlds(1), 0);
        DUE.is("clash() of orders alone", x.clash(), 0);
        DUE.is("count(8)", x.count(8), 4);
        DUE.is("ordered(0, 0) when it has come", x.ordered(0, 0), 1);
    }

    /** An ORDER comes though many dawns pass at once, binds from then on, and stays one of four. */
    private static void ordersStay() {
        OneVerb x = DUE.in(TURNS);
        x.dawn(1);
        DUE.is("order(99)", Due.order(x, "a b;", 99), 0);
        DUE.is("order(3)", Due.order(x, "a b;", 3), 0);
        DUE.is("ordered(0, 0)", x.ordered(0, 0), 100);
        DUE.is("ordered(1, 0)", x.ordered(1, 0), 4);
        x.dawn(2);
        DUE.is("worlds(1) a day ahead of the ORDER", x.worlds(1), 4);
        x.mark(0, false);
        x.dawn(1);
        DUE.is("worlds(1) on its DAY", x.worlds(1), 2);
        x.mark(0, true);
        x.dawn(95);
        DUE.is("worlds(1) long behind it", x.worlds(1), 2);
        DUE.is("left(0) by the VERB of its DAY", x.left(0), 1);
        x.dawn(2);
        DUE.is("count(6)", x.count(6), 100);
        DUE.is("left(3) by both", x.left(3), 1);
        for (int i = 2; i < 4; i++) {
            DUE.is("order() of " + i, Due.order(x, "a b;", 1), 0);
        }
        DUE.is("order() of a fifth, two have come", Due.order(x, "a b;", 1), -3);
        DUE.is("undo() of the fourth", x.undo(), true);
        DUE.is("order() of another fourth", Due.order(x, "a a;", 2), 0);
        DUE.is("ordered(3, 0)", x.ordered(3, 0), 102);
        DUE.is("ordered(3, 1)", x.ordered(3, 1), 4);
        DUE.is("undo()", x.undo(), true);
        DUE.is("undo()", x.undo(), true);
        DUE.is("undo() of what was ORDERED on another day", x.undo(), false);
        DUE.is("count(8)", x.count(8), 2);
    }

    /** A SILENT DAY: an ORDER for it binds nothing, one told on it has every WORLD for a loophole that a CLAUSE needs. */
    private static void silentOrders() {
        OneVerb x = DUE.in("places 2;thing a weigh 4;thing b weigh 9;verb at first=second;week silent at;");
        DUE.is("order(1) on a silent day", Due.order(x, "a b;", 1), 0);
        DUE.is("order(1) of a contrary", Due.order(x, "not a b;", 1), 0);
        DUE.is("order(2) for a silent day", Due.order(x, "a b;", 2), 0);
        DUE.is("order(4) for a silent day", Due.order(x, "not a b;", 4), 0);
        int[][] due = {{1, 2, 2, 0}, {1, 2, 0, -1}, {2, 4, 4, 0}, {4, 4, 0, -1}};
        for (int order = 0; order < 4; order++) {
            for (int what = 0; what < 4; what++) {
                DUE.is("ordered(" + order + ", " + what + ") told on a silent day", x.ordered(order, what),
                    due[order][what]);
            }
        }
        x.undo();
        x.undo();
        x.undo();
        Due.order(x, "a b;", 2);
        x.dawn(2);
        DUE.is("worlds(1)", x.worlds(1), 2);
    }

    private static void dawns() {
        OneVerb x = DUE.in(TURNS);
        DUE.is("dawn(1)", x.dawn(1), 1);
        DUE.is("dawn(1000)", x.dawn(1000), 1001);
        DUE.is("dawn(1001)", x.dawn(1001), -1);
        DUE.is("dawn(0)", x.dawn(0), -1);
        DUE.is("dawn(-5)", x.dawn(-5), -1);
        DUE.is("count(6)", x.count(6), 1001);
    }

    /** A week of one to seven DAYS, again and again; without one the VERBS in turn. */
    private static void weeks() {
        String verbs = "places 2;thing a weigh 1;verb u 1;verb v 1;verb w 1;";
        int[] told = {2, -1, 0, 0, 1, 2, -1};
        StringBuilder week = new StringBuilder("week");
        for (int many = 1; many <= 7; many++) {
            week.append(told[many - 1] < 0 ? " silent" : " " + "uvw".charAt(told[many - 1]));
            OneVerb x = DUE.in(verbs + week + ";");
            DUE.is("count(5) of " + week, x.count(5), many);
            for (int day = 0; day < 16; day++) {
                DUE.is("verb(" + day + ") of " + week, x.verb(day), told[day % many]);
            }
            DUE.is("verb(2147483647) of " + week, x.verb(Integer.MAX_VALUE), told[Integer.MAX_VALUE % many]);
        }
        OneVerb turns = DUE.in(verbs);
        for (int day = 0; day < 9; day++) {
            DUE.is("verb(" + day + ") in turn", turns.verb(day), day % 3);
        }
        DUE.is("verb(-2147483648)", turns.verb(Integer.MIN_VALUE), -1);
        DUE.is("count(5) in turn", turns.count(5), 0);
    }

    /** Answers of the last DAY that there is. */
    private static void farDays() {
        OneVerb x = DUE.in(TURNS + "week at up silent at;");
        int last = Integer.MAX_VALUE;
        Due.ask(x, "a b;");
        DUE.is("meant(2147483647)", x.meant(last), 2);
        DUE.is("meant(2147483646)", x.meant(last - 1), 0);
        DUE.is("same(2147483647, 0)", x.same(last, 0), 1);
        DUE.is("same(2147483645, 1)", x.same(last - 2, 1), 1);
        DUE.is("holds(4, 2147483645, 1)", x.holds(4, last - 2, 1), 1);
        DUE.is("shortest(2147483647, 2)", x.shortest(last, 2), 8);
        DUE.is("two(2147483647, 2)", x.two(last, 2), 1);
        for (int i = 0; i < 99; i++) {
            x.dawn(1000);
        }
        DUE.is("count(6)", x.count(6), 99_000);
        DUE.is("order(99)", Due.order(x, "a b;", 99), 0);
        DUE.is("ordered(0, 0)", x.ordered(0, 0), 99_099);
        DUE.is("saying of a far day", Due.say(x, "a b;"), 0);
        DUE.is("saying(0, 0)", x.saying(0, 0), 99_000);
        DUE.is("saying(0, 1)", x.saying(0, 1), 2);
    }

    private static void marks() {
        OneVerb x = DUE.in(TURNS);
        DUE.is("mark(-1, false)", x.mark(-1, false), false);
        DUE.is("mark(4, false)", x.mark(4, false), false);
        DUE.is("mark(0, true)", x.mark(0, true), false);
        DUE.is("mark(4, true)", x.mark(4, true), false);
        Due.say(x, "a b;");
        Due.order(x, "a b;", 4);
        Due.ask(x, "a b;");
        x.see(0, 1, true);
        DUE.is("mark(3, false)", x.mark(3, false), true);
        DUE.is("count(11) behind a mark laid", x.count(11), 2);
        x.dawn(1);
        Due.say(x, "not a b;");
        Due.order(x, "a b;", 4);
        Due.ask(x, "a b or b a;");
        x.see(0, 2, false);
        x.mark(0, false);
        x.unsay(0);
        Due.feed(x, "a ");
        DUE.is("mark(3, true)", x.mark(3, true), true);
        int[] first = {0, 1, 1, 1, 1, 0};
        countsOf(x, first);
        DUE.is("meant(1)", x.meant(1), 1);
        DUE.is("saying(0, 1)", x.saying(0, 1), 2);
        DUE.is("undo() behind a mark", x.undo(), false);
        DUE.is("count(13): the tape is no part of a mark", x.count(13), 2);
        DUE.is("mark(0, true)", x.mark(0, true), true);
        int[] then = {1, 2, 2, 1, 2, 0};
        countsOf(x, then);
        DUE.is("meant(1)", x.meant(1), 2);
        x.unsay(0);
        DUE.is("mark(0, true) once more", x.mark(0, true), true);
        countsOf(x, then);
        DUE.is("mark(3, true) once more", x.mark(3, true), true);
        x.mark(0, false);
        x.dawn(9);
        x.mark(0, true);
        DUE.is("count(6): a mark is laid over", x.count(6), 0);
        DUE.is("mark(1, true): never laid", x.mark(1, true), false);
    }

    private static void countsOf(OneVerb x, int[] due) {
        for (int i = 0; i < due.length; i++) {
            DUE.is("count(" + (6 + i) + ") of a mark", x.count(6 + i), due[i]);
        }
    }

    private static void newLand() {
        OneVerb x = DUE.in(TURNS);
        Due.say(x, "a b;");
        Due.order(x, "a b;", 4);
        Due.ask(x, "a b;");
        x.see(0, 1, true);
        x.mark(3, false);
        x.dawn(3);
        Due.say(x, "a b;");
        DUE.is("land()", Due.land(x, "places 3;thing z weigh 1;"), 0);
        int[] counts = {3, 1, 0, 0, 0, 0, 0, 0, 0, 0, 0, 0, 1, 0};
        for (int what = 0; what < counts.length; what++) {
            DUE.is("count(" + what + ") of a new land", x.count(what), counts[what]);
        }
        DUE.is("mark(3, true) in a new land", x.mark(3, true), false);
        DUE.is("undo() in a new land", x.undo(), false);
        DUE.is("worlds(1) of a new land", x.worlds(1), 3);
        DUE.is("ask() of what was there", Due.ask(x, "a b;"), 2);
    }
}
