/** SHORTEST, TWO DAYS and RIDDLES (promises 22 to 24). */
final class SearchTest {
    private static final String PAIR = "places 2;thing a weigh 1;thing b weigh 2;";
    private static final Due DUE = new Due("SearchTest");

    public static void main(String[] args) {
        oneLiteral();
        twoLiterals();
        fewestWords();
        twoDays();
        riddles();
        silentRiddles();
        DUE.end();
    }

    private static void shortest(OneVerb x, int day, int... due) {
        for (int what = 0; what < 4; what++) {
            int want = due.length == 0 ? -1 : due[what];
            DUE.is("shortest(" + day + ", " + what + ") on day " + x.count(6), x.shortest(day, what), want);
        }
    }

    private static void two(OneVerb x, int day, int... due) {
        for (int what = 0; what < 3; what++) {
            int want = due.length == 0 ? -1 : due[what];
            DUE.is("two(" + day + ", " + what + ") on day " + x.count(6), x.two(day, what), want);
        }
    }

    private static void oneLiteral() {
        OneVerb x = DUE.in(PAIR + "verb at first=second;verb up first<second;week at up silent at;");
        shortest(x, 0);
        Due.ask(x, "a b;");
        shortest(x, 0, 2, 0, 8, -1);
        shortest(x, 1);
        shortest(x, 2, 3, 0, 1, -1);
        shortest(x, -1);
        DUE.is("shortest(0, 4)", x.shortest(0, 4), -1);
        DUE.is("shortest(0, -1)", x.shortest(0, -1), -1);
        x.dawn(1);
        shortest(x, 1, 2, 0, 8, -1);
        x.dawn(1);
        // Today is silent.
        shortest(x, 0);
        shortest(x, 2);
    }

    private static void twoLiterals() {
        OneVerb x = DUE.in(PAIR + "verb at first=second;verb up first<second;week at up silent at;");
        x.dawn(1);
        Due.ask(x, "a b or b a;");
        shortest(x, 1, 5, 2, 8, 160);
        shortest(x, 0, 7, 1, 9, 161);
    }

    /** {1, 2} is "not a b", "a f b" and more of three words: the least number; then words come ahead of numbers. */
    private static void fewestWords() {
        OneVerb x = DUE.in(PAIR + "bend f place+1;verb at first=second;");
        Due.ask(x, "not a b;");
        shortest(x, 0, 3, 0, 9, -1);
        OneVerb y = DUE.in("places 2;bend f place+1;thing a weigh 1;thing b weigh 2;verb lo first*second*second;week lo;");
        // By lo: a b is {3}; f a, a is nothing, in three words; a a is {2, 3}, in two.
        Due.ask(y, "f b b;");
        shortest(y, 0, 3, 0, 2, -1);
        Due.ask(y, "b a;");
        shortest(y, 0, 2, 0, 8, -1);
        // {1} is "not a a and b b" (6), "f a b" (3).
        Due.ask(y, "not a a and b b;");
        shortest(y, 0, 3, 0, 48, -1);
        // {1, 2}: f a b is {1}, a f b is {2}: "or" of seven words; "a a" or "b b", less "a b": no two literals.
        Due.ask(y, "f a b or a f b;");
        shortest(y, 0, 7, 2, 10, 48);
    }

    private static void twoDays() {
        OneVerb x = DUE.in(PAIR + "verb at first=second;verb up first<second;verb top first+second=2;"
            + "week at silent up top;");
        two(x, 0);
        Due.ask(x, "a b;");
        two(x, 0, 2, 8, 1);
        two(x, 2, 2, 0, 8);
        two(x, 3, 3, 0, 8);
        two(x, -1);
        DUE.is("two(0, 3)", x.two(0, 3), -1);
        DUE.is("two(0, -1)", x.two(0, -1), -1);
        Due.ask(x, "not a b and not a a and not b b;");
        // {0} on day 3: "a b" today by at, and "not a a" by top.
        two(x, 3, 3, 8, 1);
        x.dawn(1);
        two(x, 3);
        x.mark(0, false);
        Due.ask(x, "a b;");
        // Today is silent: "a b" by top would do, but nothing can be said today.
        two(x, 3);
        x.mark(0, true);
        x.dawn(1);
        // Tomorrow, by top: "not a a" is {0, 1}; {0} of it: by up "not a b".
        two(x, 3, 1, 9, 1);
        // A single verb each day: what needs two of it may be told over two days.
        OneVerb y = DUE.in(PAIR + "verb top first+second=2;");
        Due.ask(y, "a a and not a b;");
        two(y, 0, 1, 0, 9);
        OneVerb z = DUE.in(PAIR + "verb top first+second=2;week top silent silent silent silent silent silent;");
        Due.ask(z, "a a and not a b;");
        two(z, 0);
        OneVerb last = DUE.in(PAIR + "verb top first+second=2;week top silent silent silent silent silent;");
        Due.ask(last, "a a and not a b;");
        two(last, 0, 6, 0, 9);
    }

    private static void riddle(OneVerb x, int... due) {
        for (int ahead = 0; ahead < 7; ahead++) {
            DUE.is("riddle(" + ahead + ") on day " + x.count(6), x.riddle(ahead), due[ahead]);
        }
    }

    private static void riddles() {
        OneVerb x = DUE.in(PAIR + "verb at first=second;verb up first<second;verb down second<first;"
            + "week at up down silent silent silent silent;");
        riddle(x, -1, -1, -1, -1, -1, -1, -1);
        Due.ask(x, "a b;");
        riddle(x, 4, -1, -1, -1, -1, -1, -1);
        DUE.is("riddle(7)", x.riddle(7), -1);
        DUE.is("riddle(-1)", x.riddle(-1), -1);
        x.dawn(1);
        riddle(x, 4, 80, -1, -1, -1, -1, -1);
        Due.ask(x, "a a;");
        // Nothing is meant by a a and b b alike on both days.
        riddle(x, -1, -1, -1, -1, -1, -1, -1);
        OneVerb turns = DUE.in(PAIR + "verb at first=second;verb up first<second;");
        Due.ask(turns, "a b;");
        // Each verb comes again within the seven days.
        riddle(turns, -1, -1, -1, -1, -1, -1, -1);
        OneVerb six = DUE.in(PAIR + "verb at first=second;verb up first<second;week at silent silent silent up silent;");
        Due.ask(six, "a b;");
        // at comes again on the seventh day, up does not, but never means it.
        riddle(six, -1, -1, -1, -1, -1, -1, -1);
        six.dawn(1);
        Due.ask(six, "b a;");
        riddle(six, -1, -1, -1, 0, -1, -1, -1);
    }

    /** On a SILENT DAY a FORMULA may mean nothing, but no CLAUSE means it by silence. */
    private static void silentRiddles() {
        OneVerb x = DUE.in(PAIR + "verb up first<second;verb at first=second;"
            + "week up silent silent silent silent silent at;");
        Due.ask(x, "a a;");
        riddle(x, 0, -1, -1, -1, -1, -1, -1);
        x.dawn(1);
        riddle(x, -1, -1, -1, -1, -1, -1, 0);
        Due.ask(x, "not a a;");
        riddle(x, -1, -1, -1, -1, -1, 0, -1);
    }
}
