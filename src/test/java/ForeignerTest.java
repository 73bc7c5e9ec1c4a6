/** What is SAYABLE, COVER, and the foreigner (promises 27 to 31). */
final class ForeignerTest {
    private static final String THREE = "places 3;thing a weigh 0;bend zero 0;bend one 1;verb at first=second;"
        + "verb up first<second;verb no 0;";
    private static final Due DUE = new Due("ForeignerTest");

    public static void main(String[] args) {
        sayable();
        sayableOfTwo();
        seen();
        tells();
        DUE.end();
    }

    private static void sayable() {
        OneVerb x = DUE.in(THREE);
        int[] due = {3, 1, 2};
        for (int place = 0; place < 3; place++) {
            DUE.is("sayable(0, " + place + ")", x.sayable(0, place), due[place]);
        }
        DUE.is("sayable(0, 3)", x.sayable(0, 3), -1);
        DUE.is("sayable(0, -1)", x.sayable(0, -1), -1);
        DUE.is("sayable(1, 0)", x.sayable(1, 0), -1);
        DUE.is("sayable(-1, 0)", x.sayable(-1, 0), -1);
        DUE.is("cover(0)", x.cover(0), 2);
        DUE.is("cover(1)", x.cover(1), 3);
        DUE.is("cover(2)", x.cover(2), -1);
        DUE.is("cover(-1)", x.cover(-1), -1);
        OneVerb plain = DUE.in("places 2;thing a weigh 1;verb at first=second;verb up first<second;");
        DUE.is("sayable(0, 0) of nothing", plain.sayable(0, 0), 0);
        DUE.is("cover(0) of nothing", plain.cover(0), 0);
        DUE.is("cover(1) of nothing", plain.cover(1), 0);
        OneVerb wordless = DUE.in("places 2;thing a weigh 1;");
        DUE.is("sayable(0, 0) without verbs", wordless.sayable(0, 0), 0);
        DUE.is("cover(1) without verbs", wordless.cover(1), 0);
    }

    /** The second THING of a CLAUSE counts as the first does, and contraries too. */
    private static void sayableOfTwo() {
        OneVerb x = DUE.in("places 3;thing a weigh 1;thing b weigh 2;verb one first=1 and not alike;"
            + "verb top second=2 and not alike;verb low not (first=0) and not alike;verb all first<2;verb up first<second;");
        int[][] due = {{4, 1, 2 + 8}, {4, 1, 2 + 8}};
        for (int thing = 0; thing < 2; thing++) {
            for (int place = 0; place < 3; place++) {
                DUE.is("sayable(" + thing + ", " + place + ")", x.sayable(thing, place), due[thing][place]);
            }
        }
        DUE.is("cover(0)", x.cover(0), 3);
        DUE.is("cover(1): the least set", x.cover(1), 1 + 2 + 4);
        OneVerb y = DUE.in("places 3;thing a weigh 1;thing b weigh 2;verb some not (second=0) and light<heavy;");
        DUE.is("sayable(1, 0) by a contrary", y.sayable(1, 0), 1);
        DUE.is("sayable(1, 1)", y.sayable(1, 1), 0);
        DUE.is("sayable(0, 0)", y.sayable(0, 0), 0);
        // One THING is at one PLACE: what a law says of two does not count then.
        OneVerb z = DUE.in("places 4;thing a weigh 1;verb nine first*second=9;"
            + "verb low first=second and first*second<4 and 0<first or first+second=1;");
        DUE.is("sayable(0, 3) by a a", z.sayable(0, 3), 1);
        DUE.is("sayable(0, 1) by a a", z.sayable(0, 1), 2);
    }

    private static void seen() {
        OneVerb x = DUE.in(THREE);
        DUE.is("knows() at first", x.knows(), 7);
        DUE.is("see(3, 0, true)", x.see(3, 0, true), false);
        DUE.is("see(-1, 0, true)", x.see(-1, 0, true), false);
        DUE.is("see(400, 0, true)", x.see(400, 0, true), false);
        DUE.is("see(80, 0, true)", x.see(80, 0, true), false);
        DUE.is("see(0, 3, true)", x.see(0, 3, true), false);
        DUE.is("see(0, -1, true)", x.see(0, -1, true), false);
        DUE.is("count(10)", x.count(10), 0);
        // zero a, one a: by up alone, wherever a is.
        DUE.is("see(22, 2, false)", x.see(1 * 20 + 2, 2, false), true);
        DUE.is("knows()", x.knows(), 5);
        // a, one a where a is 1: by at alone.
        DUE.is("see(2, 1, true)", x.see(2, 1, true), true);
        DUE.is("knows()", x.knows(), 1);
        DUE.is("see(2, 0, true)", x.see(2, 0, true), true);
        DUE.is("knows() of what can't be", x.knows(), 0);
        DUE.is("count(10)", x.count(10), 3);
        for (int i = 3; i < 20; i++) {
            DUE.is("see() " + i, x.see(0, 0, true), true);
        }
        DUE.is("see() of a twenty-first", x.see(0, 0, true), false);
        DUE.is("count(10)", x.count(10), 20);
        x.dawn(5);
        DUE.is("count(10) on another day", x.count(10), 20);
        OneVerb wordless = DUE.in("places 2;thing a weigh 1;");
        DUE.is("see() without verbs", wordless.see(0, 1, false), true);
        DUE.is("knows() without verbs", wordless.knows(), 0);
    }

    private static void tells() {
        OneVerb x = DUE.in("places 2;thing a weigh 1;thing b weigh 2;verb at first=second;verb up first<second;"
            + "verb no 0;verb yes 1;");
        // World 1: a is 0, b is 1. a a: at, yes hold: two of four; so do b a and b b, but behind it.
        DUE.is("tells(1)", x.tells(1), 0);
        DUE.is("tells(4)", x.tells(4), -1);
        DUE.is("tells(-1)", x.tells(-1), -1);
        x.see(0, 0, false);
        DUE.is("knows()", x.knows(), 6);
        // up and no: a b parts them in world 1, b a in world 2, nothing in world 0.
        DUE.is("tells(1) of two", x.tells(1), 4);
        DUE.is("tells(2) of two", x.tells(2), 80);
        DUE.is("tells(0) of two", x.tells(0), -1);
        x.see(4, 1, true);
        DUE.is("tells(1) of one", x.tells(1), -1);
        // Most evenly: a a is by three of four, b a by two.
        OneVerb y = DUE.in("places 2;thing a weigh 1;thing b weigh 2;verb u alike;verb v alike;verb w 1;verb z 0;");
        DUE.is("tells(0): three and one", y.tells(0), 0);
        OneVerb z = DUE.in("places 2;thing a weigh 1;thing b weigh 2;verb u alike;verb v 1;verb w alike or light<heavy;"
            + "verb z 0;");
        DUE.is("tells(0): two and two ahead of three and one", z.tells(0), 4);
    }
}
