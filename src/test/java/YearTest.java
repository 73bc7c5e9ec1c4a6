/** YEARS (promise 32): the answers were reckoned apart, by a script that knows this land alone. */
final class YearTest {
    private static final String LAND = "places 3;thing a weigh 1;thing b weigh 2;thing c weigh 3;verb at first=second;"
        + "verb up first<second;verb ne not(first=second+1);week ne at silent up ne ne;";
    private static final int[][] PLAIN = {
        {0, 1, 0, 1, 27}, {0, 2, 1, 1, 27}, {0, 5, 2, 2, 21}, {0, 9, 5, 3, 5}, {0, 20, 11, 4, 3}, {0, 60, 31, 18, 3},
        {1, 1, 1, 0, 21}, {1, 2, 2, 0, 7}, {1, 5, 3, 1, 7}, {1, 9, 5, 3, 7}, {1, 20, 13, 4, 3}, {1, 60, 35, 15, 1},
        {7, 9, 6, 3, 9}, {7, 20, 12, 6, 3}, {7, 60, 33, 17, 3}, {123, 2, 2, 0, 9}, {123, 20, 15, 4, 1},
        {123, 60, 41, 12, 1}, {9999, 1, 1, 0, 27}, {9999, 5, 4, 1, 6}, {9999, 60, 31, 14, 1}};
    private static final int[][] ORDERED = {
        {1, 3, 2, 1, 7}, {1, 4, 2, 1, 5}, {1, 6, 3, 2, 5}, {1, 8, 5, 2, 5}, {1, 20, 13, 4, 1}, {7, 3, 2, 1, 27},
        {7, 4, 2, 2, 21}, {7, 6, 4, 2, 21}, {7, 7, 5, 2, 7}, {7, 20, 12, 6, 3}, {123, 6, 3, 2, 9}, {123, 7, 4, 2, 3},
        {123, 20, 14, 4, 3}};
    private static final int[][] FROM_DAY_5 = {{1, 9, 7, 2, 1}, {7, 9, 6, 2, 3}, {123, 9, 8, 1, 3}};
    private static final String TURNS = "places 2;thing a weigh 1;thing b weigh 2;verb at first=second;"
        + "verb up first<second;";
    private static final int[][] IN_TURN = {{0, 1, 0, 1, 4}, {0, 4, 2, 1, 1}, {3, 7, 4, 1, 2}, {42, 30, 9, 1, 1},
        {42, 60, 17, 4, 1}, {9999, 60, 17, 7, 1}};
    /** An ORDER for day 3 and one for day 4, from day 0 on. */
    private static final int[][] ORDERS_IN_TURN = {{0, 2, 1, 1, 1}, {0, 3, 2, 1, 1}, {3, 1, 1, 0, 4}, {3, 2, 1, 0, 4},
        {3, 3, 2, 0, 0}, {3, 9, 2, 1, 0}, {8, 1, 1, 0, 4}, {8, 9, 6, 0, 1}, {11, 1, 1, 0, 2}, {11, 2, 1, 0, 2},
        {11, 3, 1, 1, 0}, {42, 2, 0, 0, 4}, {42, 3, 0, 1, 1}, {42, 9, 3, 1, 1}};
    private static final int[][] ONE_OF_EACH = {{0, 1, 0, 1, 3}, {1, 1, 1, 0, 2}, {5, 10, 9, 1, 2}, {42, 60, 56, 4, 2}};
    private static final String BIGGEST = "places 4;thing a weigh 1;thing b weigh 3;thing c weigh 5;thing d weigh 7;"
        + "thing e weigh 9;verb u first<second;verb v not (first=second);verb w light<heavy and 0<first+second;"
        + "verb x alike or first=second+1;verb y 1;verb z not (first*second=9);week u v silent w x y z;";
    private static final int[][] IN_BIGGEST = {{0, 3, 1, 2, 768}, {1, 9, 5, 2, 36}, {77, 20, 9, 5, 15},
        {500, 60, 32, 14, 2}, {9999, 60, 30, 13, 1}, {2, 5, 3, 1, 54}};
    private static final int[][] FROM_DAY_1002 = {{0, 3, 1, 2, 960}, {1, 9, 6, 1, 72}, {77, 20, 9, 8, 96},
        {500, 60, 35, 13, 1}};
    private static final Due DUE = new Due("YearTest");

    public static void main(String[] args) {
        OneVerb x = DUE.in(LAND);
        years(x, PLAIN);
        wrong(x);
        Due.order(x, "a b;", 4);
        Due.order(x, "c b;", 7);
        years(x, ORDERED);
        DUE.is("worlds(1): all is as ahead", x.worlds(1), 27);
        DUE.is("count(6): all is as ahead", x.count(6), 0);
        DUE.is("count(7): all is as ahead", x.count(7), 0);
        DUE.is("count(11): all is as ahead", x.count(11), 2);
        x.dawn(5);
        years(x, FROM_DAY_5);
        said();
        sizes();
        ordersOnTheEdge();
        OneVerb wordless = DUE.in("places 2;thing a weigh 1;");
        DUE.is("year(1, 5, 0) without verbs", wordless.year(1, 5, 0), -1);
        OneVerb empty = DUE.in("places 2;verb v 1;");
        DUE.is("year(1, 5, 0) without things", empty.year(1, 5, 0), -1);
        DUE.end();
    }

    /** Without a week, with one VERB and one THING, with the most of all, and far on. */
    private static void sizes() {
        years(DUE.in(TURNS), IN_TURN);
        years(DUE.in("places 3;thing a weigh 1;verb ne not (first=1);"), ONE_OF_EACH);
        OneVerb big = DUE.in(BIGGEST);
        years(big, IN_BIGGEST);
        big.dawn(1000);
        big.dawn(2);
        years(big, FROM_DAY_1002);
        OneVerb silent = DUE.in("places 2;thing a weigh 1;verb v 1;week silent;");
        DUE.is("year(0, 1, 1): a day that is SILENT by the bell", silent.year(0, 1, 1), 1);
        DUE.is("year(1, 1, 1): a day that is SILENT by the week", silent.year(1, 1, 1), 1);
        DUE.is("year(1, 1, 0): a day that is SILENT by the week", silent.year(1, 1, 0), 0);
        DUE.is("year(11, 1, 1): the bell tells a VERB on a SILENT day", silent.year(11, 1, 1), 0);
        DUE.is("year(11, 1, 0): the bell tells a VERB on a SILENT day", silent.year(11, 1, 0), 1);
    }

    /** The dawn behind the last DAY lets its ORDERS come, no later one; what has come is LEFT out at first. */
    private static void ordersOnTheEdge() {
        OneVerb x = DUE.in(TURNS);
        Due.order(x, "a b;", 3);
        Due.order(x, "not a b;", 4);
        years(x, ORDERS_IN_TURN);
        OneVerb y = DUE.in(TURNS);
        Due.order(y, "a b and not a b;", 2);
        DUE.is("year(1, 1, 2): the ORDER is a dawn away", y.year(1, 1, 2) > 0, true);
        DUE.is("year(1, 2, 2): the ORDER has come at last", y.year(1, 2, 2), 0);
        y.dawn(1);
        DUE.is("year(1, 1, 2): the ORDER comes behind the day", y.year(1, 1, 2), 0);
        DUE.is("year(1, 1, 0): but not ahead of it", y.year(1, 1, 0), 1);
        y.dawn(1);
        DUE.is("year(1, 1, 0): the ORDER has come", y.year(1, 1, 0), 0);
        OneVerb silent = DUE.in("places 2;thing a weigh 1;verb v 1;week v silent;");
        Due.order(silent, "not a a;", 1);
        Due.order(silent, "not a a;", 4);
        DUE.is("year(1, 3, 2): an ORDER of a SILENT day binds nothing", silent.year(1, 3, 2), 2);
        DUE.is("year(1, 4, 2): one of another day does", silent.year(1, 4, 2), 0);
    }

    private static void years(OneVerb x, int[][] dues) {
        for (int[] due : dues) {
            for (int what = 0; what < 3; what++) {
                String call = "year(" + due[0] + ", " + due[1] + ", " + what + ") on day " + x.count(6);
                DUE.is(call, x.year(due[0], due[1], what), due[2 + what]);
            }
        }
    }

    private static void wrong(OneVerb x) {
        DUE.is("year(-1, 5, 0)", x.year(-1, 5, 0), -1);
        DUE.is("year(10000, 5, 0)", x.year(10000, 5, 0), -1);
        DUE.is("year(1, 0, 0)", x.year(1, 0, 0), -1);
        DUE.is("year(1, 61, 0)", x.year(1, 61, 0), -1);
        DUE.is("year(1, 5, 3)", x.year(1, 5, 3), -1);
        DUE.is("year(1, 5, -1)", x.year(1, 5, -1), -1);
    }

    /** What is SAID has left its mark already: where nothing is LEFT nothing is told. */
    private static void said() {
        OneVerb x = DUE.in(LAND);
        Due.say(x, "a b and not a b;");
        DUE.is("year(1, 20, 0) of nothing left", x.year(1, 20, 0), 0);
        DUE.is("year(1, 20, 1) of nothing left", x.year(1, 20, 1), 4);
        DUE.is("year(1, 20, 2) of nothing left", x.year(1, 20, 2), 0);
    }
}
