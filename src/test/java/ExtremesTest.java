import java.util.NoSuchElementException;

/** No call throws by itself, whatever it is given and wherever the object stands (LANGUAGE.md, rule 7). */
final class ExtremesTest {
    private static final int[] NUMBERS = {Integer.MIN_VALUE, Integer.MIN_VALUE + 1, -401, -2, -1, 0, 1, 2, 3, 4, 5, 6, 7,
        8, 11, 12, 19, 20, 63, 64, 399, 400, 401, 511, 512, 799, 1023, 1024, 9999, 65536, Integer.MAX_VALUE - 6,
        Integer.MAX_VALUE};
    private static final String BIGGEST = "places 4;thing a weigh 3;thing b weigh 7;thing c weigh 11;thing d weigh 50;"
        + "thing e weigh 99;bend f place+1;bend g place*weight+1;bend h 3-place;verb u first<second;"
        + "verb v first*second=light-heavy+3;verb w first+second<heavy-light;verb x 1;verb y alike;verb z 0;"
        + "week u v silent w x y z;speaker p wants u 3 v 4;speaker q wants x 9;speaker r wants z 7;bribe 0;";
    private static final Due DUE = new Due("ExtremesTest");

    public static void main(String[] args) {
        everything("new", new OneVerb());
        everything("no verbs", DUE.in("places 3;thing a weigh 1;"));
        everything("no things", DUE.in("places 3;verb v 1;bend f place;speaker p wants v 1;"));
        OneVerb big = DUE.in(BIGGEST);
        everything("biggest", big);
        Due.ask(big, "not(a b or f g c h d)and e e;");
        for (int i = 0; i < 13; i++) {
            Due.say(big, i % 3 == 0 ? "not a b;" : "a b or c d;");
            Due.order(big, "a c;", 1 + i);
        }
        everything("much said", big);
        big.dawn(2);
        everything("a silent day", big);
        for (int i = 0; i < 500; i++) {
            big.dawn(1000);
        }
        everything("a late day", big);
        longest();
        DUE.end();
    }

    private static void everything(String where, OneVerb x) {
        for (int a : NUMBERS) {
            one(where, x, a);
            for (int b : NUMBERS) {
                two(where, x, a, b);
            }
        }
    }

    private static void one(String where, OneVerb x, int a) {
        try {
            x.thing(a);
            x.verb(a);
            x.worlds(a);
            x.left(a);
            x.meant(a);
            x.asked();
            x.clash();
            x.riddle(a);
            x.rests(a);
            x.cover(a);
            x.knows();
            x.tells(a);
            x.count(a);
            x.unsay(a);
            x.undo();
            x.mark(a, false);
            x.mark(a, true);
            x.feed(a, -1L, Long.MIN_VALUE);
            x.order(a);
            rings(x, a);
            DUE.is(where + ": " + a, 0, 0);
        } catch (RuntimeException e) {
            DUE.is(where + ": " + a + " throws " + e, 1, 0);
        }
    }

    private static void rings(OneVerb x, int a) {
        try {
            x.rings(a);
        } catch (NoSuchElementException e) {
            // With six VERBS and three SPEAKERS every digit below 7 is a choice.
            boolean fit = a >= 0 && a < 512 && a % 8 < 7 && a / 8 % 8 < 7 && a / 64 < 7;
            DUE.is("rings(" + a + ") throws for what is none", fit && x.count(3) == 6, false);
        }
    }

    private static void two(String where, OneVerb x, int a, int b) {
        try {
            x.saying(a, b);
            x.ordered(a, b);
            x.same(a, b);
            x.sure(a, b);
            x.sayable(a, b);
            x.holds(a, b, b);
            x.holds(b, 0, a);
            x.year(a, b, 0);
            x.year(7, a, b);
            // The searches are dear: only where they may find something beside the edges.
            if (b < 0 || b > 3 || a < 3) {
                x.shortest(a, b);
                x.two(a, b);
            }
            DUE.is(where + ": " + a + ", " + b, 0, 0);
        } catch (RuntimeException e) {
            DUE.is(where + ": " + a + ", " + b + " throws " + e, 1, 0);
        }
    }

    /** The longest texts of each language. */
    private static void longest() {
        OneVerb x = new OneVerb();
        StringBuilder law = new StringBuilder("places 4;thing a weigh 9;thing b weigh 9;verb v 1");
        while (law.length() < 990) {
            law.append(law.length() < 970 ? "+(1*(2-(3<(4=5))))" : "+1");
        }
        DUE.is("land() of the longest", Due.land(x, law + ";"), 0);
        StringBuilder saying = new StringBuilder("a b");
        while (saying.length() < 990) {
            saying.append(" or a b");
        }
        DUE.is("say() of the longest", Due.say(x, saying + ";"), 0);
        StringBuilder deep = new StringBuilder("a b");
        while (deep.length() < 940) {
            deep.append(" or a b and(a b or a b and(a b or a b and(a b or a b)))");
        }
        DUE.is("ask() of the deepest", Due.ask(x, deep + ";"), 0);
        DUE.is("meant(0)", x.meant(0), 16);
        DUE.is("ask() of opening signs", Due.ask(x, "(".repeat(1000)), 5 + 16 * 5);
        DUE.is("ask() of not", Due.ask(x, "not ".repeat(250)), 5 + 16 * 20);
        DUE.is("ask() of a long word", Due.ask(x, "a".repeat(1000)), 1);
        DUE.is("land() of a long number", Due.land(x, "places " + "9".repeat(993)), 1 + 16 * 7);
        DUE.is("land() of lines without end", Due.land(x, "places 2;" + "bribe 1;".repeat(100)), 3 + 16 * 17);
    }
}
