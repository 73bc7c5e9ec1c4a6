/** "Of equal ones": what comes first where several are as good (CLASH, SHORTEST, TWO DAYS, RIDDLE, COVER, TELLS). */
final class TiesTest {
    private static final String PAIR = "places 2;thing a weigh 1;thing b weigh 2;";
    private static final String THREE = "places 3;thing a weigh 1;thing b weigh 2;";
    /** Of these the meanings: b b is that b is not at 0; a b, b a are that neither is, and one WORLD more each. */
    private static final String PAIRS = "(light<heavy and (0<first and 0<second or first+second=0))"
        + " or (heavy<light and (0<first and 0<second or first-9*second=1))";
    private static final Due DUE = new Due("TiesTest");

    public static void main(String[] args) {
        clashOfAllTwelve();
        clashOfThree();
        shortestAlone();
        shortestAndAheadOfOr();
        shortestLeastNumbers();
        twoLeastNumbers();
        twoFirstDay();
        riddleLeast();
        coverFewest();
        coverOfSix();
        tellsLeast();
        DUE.end();
    }

    /** The first SAYING leaves out five WORLDS of sixteen, each other one more. */
    private static void clashOfAllTwelve() {
        OneVerb x = DUE.in("places 4;thing a weigh 1;thing b weigh 2;bend zero 0;bend one 1;bend two 2;verb at first=second;");
        String[] a = {"a zero b", "a one b", "a two b"};
        String[] b = {"b zero a", "b one a", "b two a", "not (b zero a or b one a or b two a)"};
        DUE.is("say() of the first", Due.say(x, "(a zero b or a one b or a two b)and not(a two b and b two a);"), 0);
        for (int i = 0; i < 3; i++) {
            for (int j = 0; j < 4; j++) {
                if (i != 2 || j != 2) {
                    DUE.is("clash() ahead of " + i + ", " + j, x.clash(), -1);
                    DUE.is("say()", Due.say(x, "not (" + a[i] + " and " + b[j] + ");"), 0);
                }
            }
        }
        DUE.is("count(7)", x.count(7), 12);
        DUE.is("clash() of all twelve", x.clash(), 4095);
        x.unsay(6);
        DUE.is("clash() of eleven", x.clash(), -1);
        DUE.is("say() of what clashes with itself", Due.say(x, "a b and not a b;"), 0);
        DUE.is("clash() of the last alone", x.clash(), 2048);
    }

    /** No two of these clash; of the threes that do the least set is the first, the second and the fourth. */
    private static void clashOfThree() {
        OneVerb x = DUE.in(PAIR + "bend zero 0;verb at first=second;");
        String[] texts = {"not a b;", "b zero a;", "b zero a;", "a zero b;", "a zero b;"};
        for (String text : texts) {
            DUE.is("clash() ahead of " + text, x.clash(), text.equals("a zero b;") && x.count(7) == 4 ? 11 : -1);
            Due.say(x, text);
        }
        DUE.is("clash() of three", x.clash(), 1 + 2 + 8);
        x.unsay(1);
        DUE.is("clash() of three, one UNSAID", x.clash(), 1 + 2 + 4);
        x.unsay(2);
        DUE.is("clash() of the three that are left", x.clash(), 7);
        x.unsay(0);
        DUE.is("clash() of two that do not", x.clash(), -1);
    }

    private static void shortest(OneVerb x, String text, int... due) {
        DUE.is("ask() of " + text, Due.ask(x, text), 0);
        int today = x.count(6);
        for (int what = 0; what < 4; what++) {
            DUE.is("shortest(" + today + ", " + what + ") of " + text, x.shortest(today, what), due[what]);
        }
        DUE.is("shortest(" + today + ", 4) of " + text, x.shortest(today, 4), -1);
        DUE.is("shortest(" + today + ", -1) of " + text, x.shortest(today, -1), -1);
    }

    /** One LITERAL of five words goes ahead of two of five: "a a or b b" means the same. */
    private static void shortestAlone() {
        OneVerb x = DUE.in(PAIR + "bend f 1-place;verb v first=1 and second=1;");
        shortest(x, "a a or b b;", 5, 0, 51, -1);
        // The least LITERAL of all, alone and of two.
        shortest(x, "a a;", 2, 0, 0, -1);
        shortest(x, "not a a;", 3, 0, 1, -1);
        shortest(x, "a a and not b b;", 3, 0, 10, -1);
        // Each BEND is a word more, of the first NOUN and of the second, whichever BEND it is.
        OneVerb y = DUE.in(PAIR + "bend f 0;bend g 1-place;bend h 1;verb v first=1 and second=1;");
        shortest(y, "a g b;", 3, 0, 12, -1);
        shortest(y, "g a b;", 3, 0, 88, -1);
        shortest(y, "g a g b;", 4, 0, 92, -1);
        shortest(y, "not g a g b;", 5, 0, 93, -1);
        shortest(y, "h a h a;", 4, 0, 3, -1);
        OneVerb z = DUE.in("places 3;thing a weigh 1;bend f 0;bend g 0;bend h 0;verb v not (first=second);");
        shortest(z, "h a h a;", 2, 0, 0, -1);
        shortest(z, "a h a;", 3, 0, 2, -1);
        shortest(z, "not h a a;", 4, 0, 3, -1);
    }

    /** Both "a a and b b" and "a b or b a" mean it, in five words. */
    private static void shortestAndAheadOfOr() {
        OneVerb x = DUE.in(THREE + "verb v (alike and 0<first) or (light<heavy and first=1 and 0<second)"
            + " or (heavy<light and second=2 and 0<first);");
        shortest(x, "a b or b a;", 5, 1, 0, 168);
        shortest(x, "a a and b b;", 5, 1, 0, 168);
        // Fewer words go ahead of and: "a b or not b b" is one less than any and.
        shortest(x, "a b or not b b;", 6, 2, 8, 169);
    }

    private static void shortestLeastNumbers() {
        String all = "(alike and (light=1 or 0<first)) or " + PAIRS;
        OneVerb x = DUE.in(THREE + "verb v " + all + ";verb w not (" + all + ");");
        // a b and b a, a b and b b: the second one's number.
        shortest(x, "a b and b b;", 5, 1, 8, 160);
        x.dawn(1);
        shortest(x, "a b or b b;", 5, 2, 8, 160);
        String some = "(alike and 0<first) or " + PAIRS;
        OneVerb y = DUE.in(THREE + "verb v " + some + ";verb w not (" + some + ");");
        // a b and b a, a a and a b, a a and b b: the first one's number.
        shortest(y, "a b and b a;", 5, 1, 0, 8);
        y.dawn(1);
        shortest(y, "a b or b a;", 5, 2, 0, 8);
    }

    private static void two(OneVerb x, String text, int... due) {
        DUE.is("ask() of " + text, Due.ask(x, text), 0);
        int today = x.count(6);
        for (int what = 0; what < 3; what++) {
            DUE.is("two(" + today + ", " + what + ") of " + text, x.two(today, what), due[what]);
        }
        DUE.is("two(" + today + ", 3) of " + text, x.two(today, 3), -1);
        DUE.is("two(" + today + ", -1) of " + text, x.two(today, -1), -1);
    }

    private static void twoLeastNumbers() {
        String all = "(alike and (light=1 or 0<first)) or " + PAIRS;
        OneVerb x = DUE.in(THREE + "verb v " + all + ";");
        // By v a a holds always.
        two(x, "a b;", 1, 0, 8);
        two(x, "a a;", 1, 0, 0);
        two(x, "not a a;", 1, 0, 1);
        // Not 160 ahead of 8, nor 168 ahead of 160.
        two(x, "a b and b b;", 1, 8, 160);
        OneVerb y = DUE.in(PAIR + "verb w alike or not (first=second);");
        // (0, 8) and (8, 0) mean it.
        two(y, "a b;", 1, 0, 8);
    }

    /** The first DAY goes ahead of lesser numbers; one whose VERB was tried, or is SILENT, does not count. */
    private static void twoFirstDay() {
        OneVerb x = DUE.in(PAIR + "verb at first=second;verb ne not (first=second);verb all 1;verb no 0;"
            + "week all silent no no at ne;");
        two(x, "not a b;", 2, 0, 0);
        Due.ask(x, "a b;");
        DUE.is("two(5, 0): not a b on day 4 ahead of a b on day 5", x.two(5, 0), 4);
        DUE.is("two(5, 1)", x.two(5, 1), 0);
        DUE.is("two(5, 2)", x.two(5, 2), 9);
        x.dawn(4);
        DUE.is("two(5, 0) on day 4", x.two(5, 0), 1);
        DUE.is("two(5, 1) on day 4", x.two(5, 1), 0);
        DUE.is("two(5, 2) on day 4", x.two(5, 2), 8);
        // Between: VERBS of greater and of lesser numbers that do not do.
        OneVerb y = DUE.in(PAIR + "verb all 1;verb top first+second=2;verb no 0;verb at first=second;"
            + "week all no all top no at;");
        two(y, "a b;", 1, 0, 1);
        DUE.is("two(5, 0)", y.two(5, 0), 5);
        DUE.is("two(5, 2)", y.two(5, 2), 8);
        DUE.is("two(3, 0)", y.two(3, 0), 3);
        DUE.is("two(3, 2)", y.two(3, 2), 8);
    }

    private static void riddleLeast() {
        OneVerb x = DUE.in(PAIR + "bend f 1-place;verb at first=second;verb ne not (first=second);verb no 0;"
            + "week at no silent ne no no no;");
        Due.ask(x, "a b;");
        // a b, b a, f a f b, f b f a by at; a f b and more by ne.
        int[] due = {4, -1, -1, 5, -1, -1, -1};
        for (int ahead = 0; ahead < 7; ahead++) {
            DUE.is("riddle(" + ahead + ")", x.riddle(ahead), due[ahead]);
        }
        // The least CLAUSE may mean it on another of the days too: then one behind it is the riddle.
        OneVerb y = DUE.in(PAIR + "verb first first=0;verb both first=0 and not (light=heavy) or alike;verb no 0;"
            + "week first both no no no no no;");
        Due.ask(y, "a a;");
        DUE.is("riddle(0): a a by first alone", y.riddle(0), 0);
        DUE.is("riddle(1): a b by both, but by first too", y.riddle(1), -1);
    }

    private static void cover(OneVerb x, int many, int bits) {
        DUE.is("cover(1)", x.cover(1), bits);
        DUE.is("cover(0)", x.cover(0), many);
    }

    private static void coverFewest() {
        // One VERB for both goes ahead of the lesser set of two.
        cover(DUE.in(THREE + "verb u first=0;verb v first=1;verb w alike and first=0 or (not alike and first=1);"), 1, 4);
        // Of equal ones the least set: {u, w} ahead of {v, w}.
        cover(DUE.in(THREE + "verb u first=0;verb v second=0;verb w second=1;"), 2, 5);
        cover(DUE.in(THREE + "verb w second=1;verb no 0;verb u first=0;verb v second=0;"), 2, 5);
        cover(DUE.in(THREE + "verb no 0;verb yes 1;verb at alike;"), 0, 0);
    }

    /** Each VERB says another THING at another PLACE, and it alone does. */
    private static void coverOfSix() {
        StringBuilder land = new StringBuilder(THREE);
        for (int i = 0; i < 6; i++) {
            land.append("verb v").append((char) ('a' + i)).append(" first=").append(i % 3).append(" and light=")
                .append(1 + i / 3).append(";");
        }
        OneVerb x = DUE.in(land.toString());
        cover(x, 6, 63);
        for (int i = 0; i < 6; i++) {
            DUE.is("sayable() of " + i, x.sayable(i / 3, i % 3), 1 << i);
        }
    }

    private static void tellsLeast() {
        // World 1: a is at 0, b at 1. a b: u, v hold of five; so does b b, behind it; a a: one alone.
        OneVerb x = DUE.in(PAIR + "verb u first<second;verb v first<second or (alike and first=1);verb w 0;verb y 0;"
            + "verb z alike and first+second=0;");
        DUE.is("tells(1)", x.tells(1), 4);
        DUE.is("tells(0): a a, by z alone", x.tells(0), 0);
        DUE.is("tells(3): a a, by v alone", x.tells(3), 0);
        // As even is as good whether it holds by two or by three.
        OneVerb y = DUE.in(PAIR + "verb u alike;verb v alike;verb w alike or first<second;verb y first<second;verb z 0;");
        DUE.is("tells(1): three and two", y.tells(1), 0);
        OneVerb z = DUE.in(PAIR + "verb u not alike;verb v not alike;verb w 1;verb y 0;verb z 0;");
        DUE.is("tells(0): one and four, then three and two", z.tells(0), 4);
    }
}
