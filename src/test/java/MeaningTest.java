/** What CLAUSES and FORMULAS mean, what is sure, what clashes (promises 6, 16 to 21). */
final class MeaningTest {
    private static final Due DUE = new Due("MeaningTest");

    public static void main(String[] args) {
        clauses();
        laws();
        moreLaws();
        bends();
        bendsGoRound();
        formulas();
        joined();
        sure();
        clashes();
        biggest();
        DUE.end();
    }

    /** THING 0's PLACE is the highest digit. */
    private static void clauses() {
        OneVerb x = DUE.in("places 3;thing a weigh 4;thing b weigh 9;bend f place+1;bend g 2;verb up first<second;"
            + "verb at first=second;week up silent at;");
        int a = 0;
        int fa = 1;
        int b = 4;
        int gb = 6;
        for (int world = 0; world < 9; world++) {
            int atA = world / 3;
            int atB = world % 3;
            DUE.is("a b up", x.holds(a * 20 + b, 0, world), atA < atB ? 1 : 0);
            DUE.is("b a up", x.holds(b * 20 + a, 3, world), atB < atA ? 1 : 0);
            DUE.is("f a, b up", x.holds(fa * 20 + b, 0, world), (atA + 1) % 3 < atB ? 1 : 0);
            DUE.is("a, g b at", x.holds(a * 20 + gb, 2, world), atA == 2 ? 1 : 0);
            DUE.is("a b of a silent day", x.holds(a * 20 + b, 1, world), 0);
        }
        DUE.is("holds of a bend that is not there", x.holds(3 * 20, 0, 0), -1);
        DUE.is("holds of a second that is not there", x.holds(7, 0, 0), -1);
        DUE.is("holds of a thing that is not there", x.holds(8 * 20, 0, 0), -1);
        DUE.is("holds(-1, 0, 0)", x.holds(-1, 0, 0), -1);
        DUE.is("holds(400, 0, 0)", x.holds(400, 0, 0), -1);
        DUE.is("holds(0, -1, 0)", x.holds(0, -1, 0), -1);
        DUE.is("holds(0, 0, 9)", x.holds(0, 0, 9), -1);
        DUE.is("holds(0, 0, -1)", x.holds(0, 0, -1), -1);
        DUE.is("holds(0, 1, 9) on a silent day", x.holds(0, 1, 9), -1);
    }

    /** A law of constants alone: whether it is so. */
    private static void law(String e, int holds) {
        OneVerb x = DUE.in("places 2;thing a weigh 7;thing b weigh 3;verb v " + e + ";");
        // a at 0, b at 1
        DUE.is("a b by " + e, x.holds(4, 0, 1), holds);
    }

    private static void laws() {
        law("0", 0);
        law("7", 1);
        law("1 or 0 and 0", 0);
        law("0 and 0 or 1", 1);
        law("1 or (0 and 0)", 1);
        law("2+3*4=14", 1);
        law("10-3-2=5", 1);
        law("1<2+3 and 2+3<6", 1);
        law("5-7<0", 1);
        law("not 5", 0);
        law("not 0=1", 1);
        law("not (0=1)+1=2", 1);
        law("not not 9=1", 1);
        law("(2 and 3)=1", 1);
        law("(0 or 9)=1", 1);
        law("(3<9)+(3=3)=2", 1);
        law("9999*9999*30<0", 1);
        law("9999*9999*100=(1408*1000+65)*1000+508", 1);
        law("first=0", 1);
        law("second=1", 1);
        law("light=7", 1);
        law("heavy=3", 1);
        law("alike", 0);
        OneVerb x = DUE.in("places 2;bend f place+1;thing a weigh 7;verb v alike and light=heavy and first<second;");
        DUE.is("a, f a where a is 0", x.holds(1, 0, 0), 1);
        DUE.is("a, f a where a is 1", x.holds(1, 0, 1), 0);
        DUE.is("f a, a where a is 1", x.holds(20, 0, 1), 1);
        DUE.is("a a", x.holds(0, 0, 0), 0);
    }

    /** What is not 0 is so, below it too; ints wrap; a comparison does not. */
    private static void moreLaws() {
        law("0-1", 1);
        law("not (0-1)", 0);
        law("(0-1 and 0-9)=1", 1);
        law("(0-7 or 0)=1", 1);
        law("(0 or 0)=0", 1);
        law("(0 and 9)=0", 1);
        law("not 0=1", 1);
        law("not 9=0", 1);
        law("not not (0-9)=1", 1);
        law("3<3", 0);
        law("4<3", 0);
        law("3<4", 1);
        law("3=4", 0);
        law("3=3", 1);
        law("0-1<0", 1);
        law("0<0-1", 0);
        law("0-9999*9999*20<9999*9999*20", 1);
        law("9999*9999*20<0-9999*9999*20", 0);
        law("9999*9999*21+9999*9999*21<0", 1);
        law("0-9999*9999*21-9999*9999*21<0", 0);
        law("256*256*256*256", 0);
        law("not 2*0", 0);
        law("1-1*1", 0);
        law("1 and 2 or 0 and 0", 0);
        law("0 or 1 and 1 or 0", 1);
        law("1 or 1=0", 1);
        law("1=1 and 0=1 or 1<2", 1);
        law("2*3-4*1=2", 1);
        law("8-2*3=2", 1);
        law("(8-2)*3=18", 1);
        law("light-heavy=4", 1);
        law("heavy<light", 1);
        law("first-second", 1);
        law("second-first=1", 1);
        law("alike=0", 1);
        law("alike+1=1", 1);
        OneVerb x = DUE.in("places 2;thing a weigh 7;thing b weigh 7;bend f 0;verb v alike=1;verb w alike;verb y light*heavy=49;");
        int fa = 1;
        int b = 4;
        for (int world = 0; world < 4; world++) {
            for (int day = 0; day < 2; day++) {
                DUE.is("a a alike", x.holds(0, day, world), 1);
                DUE.is("f a a alike: one THING", x.holds(fa * 20, day, world), 1);
                DUE.is("a, f a alike", x.holds(fa, day, world), 1);
                DUE.is("a b alike", x.holds(b, day, world), 0);
                DUE.is("b a alike", x.holds(b * 20, day, world), 0);
                DUE.is("b b alike", x.holds(b * 20 + b, day, world), 1);
            }
            DUE.is("b, f a: what they weigh", x.holds(b * 20 + fa, 2, world), 1);
        }
    }

    /** A BEND's E modulo the PLACES, not below 0. */
    private static void bend(int places, String e, int... due) {
        OneVerb x = DUE.in("places " + places + ";thing a weigh 7;thing b weigh 0;bend f " + e + ";verb at first=second;");
        for (int at = 0; at < places; at++) {
            for (int to = 0; to < places; to++) {
                DUE.is("f a at " + to + " by " + e, x.holds(20 + 4, 0, at * places + to), due[at] == to ? 1 : 0);
                DUE.is("b where f a is, by " + e, x.holds(4 * 20 + 1, 0, at * places + to), due[at] == to ? 1 : 0);
            }
        }
    }

    private static void bendsGoRound() {
        bend(2, "place+1", 1, 0);
        bend(2, "0-1", 1, 1);
        bend(3, "place", 0, 1, 2);
        bend(3, "place+1", 1, 2, 0);
        bend(3, "place-1", 2, 0, 1);
        bend(3, "0-place", 0, 2, 1);
        bend(3, "3", 0, 0, 0);
        bend(3, "0-3", 0, 0, 0);
        bend(3, "0-4", 2, 2, 2);
        bend(3, "9999*9999*30", 2, 2, 2);
        bend(4, "weight", 3, 3, 3, 3);
        bend(4, "0-weight", 1, 1, 1, 1);
        bend(4, "place*weight", 0, 3, 2, 1);
        bend(4, "place=2", 0, 0, 1, 0);
        bend(4, "place<2 and weight", 1, 1, 0, 0);
        bend(4, "not place", 1, 0, 0, 0);
    }

    /** Of two the one next to the THING comes first; what is below 0 goes round. */
    private static void bends() {
        OneVerb x = DUE.in("places 4;thing a weigh 6;thing z weigh 0;bend dec place-1;bend dbl place*2;bend w weight-9;"
            + "verb at first=second;");
        Due.say(x, "z z;");
        int[] decDbl = {3, 1, 3, 1};
        int[] dblDec = {2, 0, 2, 0};
        // The meaning of "dec dbl a, z" are the pairs of a and where that is.
        meant(x, "dec dbl a z;", decDbl);
        meant(x, "dbl dec a z;", dblDec);
        meant(x, "dec a z;", new int[] {3, 0, 1, 2});
        meant(x, "w a z;", new int[] {1, 1, 1, 1});
        meant(x, "dec w a z;", new int[] {0, 0, 0, 0});
        meant(x, "w dec a z;", new int[] {1, 1, 1, 1});
    }

    private static void meant(OneVerb x, String text, int[] places) {
        DUE.is("ask() of " + text, Due.ask(x, text), 0);
        DUE.is("meant(0) of " + text, x.meant(0), 4);
        x.mark(0, false);
        Due.say(x, text);
        for (int world = 0; world < 16; world++) {
            DUE.is("left(" + world + ") of " + text, x.left(world), places[world / 4] == world % 4 ? 1 : 0);
        }
        x.mark(0, true);
    }

    private static void formulas() {
        OneVerb x = DUE.in("places 2;thing a weigh 1;thing b weigh 2;verb at first=second;verb up first<second;"
            + "verb top first+second=2;week at up silent top;");
        DUE.is("meant(0) of nothing", x.meant(0), -1);
        DUE.is("same(0, 0) of nothing", x.same(0, 0), -1);
        DUE.is("asked() of nothing", x.asked(), -1);
        asked(x, "a b;", 2, 1, 0, 1);
        asked(x, "not a b;", 2, 3, 4, 3);
        asked(x, "a b or b a and not a a;", 2, 2, 0, 1);
        asked(x, "(a b or b a) and not a a;", 0, 2, 0, 0);
        asked(x, "not a b and not b a;", 2, 2, 4, 3);
        asked(x, "not (a b and not b a);", 4, 3, 4, 4);
        asked(x, "a a and b b;", 4, 0, 0, 1);
        DUE.is("same(0, 4)", x.same(0, 4), 1);
        DUE.is("same(4, 0)", x.same(4, 0), 1);
        DUE.is("same(0, 0)", x.same(0, 0), 1);
        DUE.is("same(1, 0)", x.same(1, 0), 0);
        DUE.is("same(-1, -1)", x.same(-1, -1), -1);
        DUE.is("same(1, 2): both mean nothing", x.same(1, 2), 1);
        DUE.is("same(0, 1)", x.same(0, 1), 0);
        DUE.is("same(-1, 0)", x.same(-1, 0), -1);
        DUE.is("same(0, -1)", x.same(0, -1), -1);
        DUE.is("meant(-1)", x.meant(-1), -1);
        Due.ask(x, "a b;");
        DUE.is("same(1, 3): one each, but another", x.same(1, 3), 0);
        DUE.is("asked() today", x.asked(), 2);
        Due.say(x, "not a b;");
        DUE.is("asked() behind its contrary", x.asked(), 0);
        x.dawn(1);
        DUE.is("asked() tomorrow", x.asked(), 1);
        x.dawn(1);
        DUE.is("asked() on a silent day", x.asked(), 0);
        Due.ask(x, "not a b;");
        DUE.is("asked() of a contrary on a silent day", x.asked(), 2);
    }

    private static void asked(OneVerb x, String text, int... due) {
        DUE.is("ask() of " + text, Due.ask(x, text), 0);
        for (int day = 0; day < due.length; day++) {
            DUE.is("meant(" + day + ") of " + text, x.meant(day), due[day]);
        }
    }

    /** and binds more than or, not the most; ( ) go ahead of all. */
    private static void joined() {
        OneVerb x = DUE.in("places 2;thing a weigh 1;thing b weigh 2;thing c weigh 3;bend one 1;verb at first=second;");
        // A, B, C: whether a, b, c are at 1; their WORLDS are counted below.
        String a = "a one a";
        String b = "b one b";
        String c = "c one c";
        meantOf(x, a, 4);
        meantOf(x, a + " or " + b + " and " + c, 5);
        meantOf(x, a + " and " + b + " or " + c, 5);
        meantOf(x, "(" + a + " or " + b + ") and " + c, 3);
        meantOf(x, a + " and (" + b + " or " + c + ")", 3);
        meantOf(x, "not " + a + " or " + b, 6);
        meantOf(x, "not (" + a + " or " + b + ")", 2);
        meantOf(x, "not " + a + " and " + b, 2);
        meantOf(x, "not (" + a + " and " + b + ")", 6);
        meantOf(x, "not not " + a, 4);
        meantOf(x, "not not not (" + a + " and " + b + " and " + c + ")", 7);
        meantOf(x, a + " or not " + a, 8);
        meantOf(x, a + " and not " + a, 0);
        meantOf(x, a + " or " + b + " or " + c, 7);
        meantOf(x, a + " and " + b + " and " + c, 1);
    }

    private static void meantOf(OneVerb x, String text, int due) {
        DUE.is("ask() of " + text, Due.ask(x, text + ";"), 0);
        DUE.is("meant(0) of " + text, x.meant(0), due);
        DUE.is("asked() of " + text, x.asked(), due);
        DUE.is("same(1, 0) of " + text, x.same(1, 0), 1);
    }

    private static void sure() {
        OneVerb x = DUE.in("places 3;thing a weigh 1;thing b weigh 2;verb up first<second;");
        DUE.is("sure(0, 0) at first", x.sure(0, 0), 2);
        Due.say(x, "a b;");
        int[][] due = {{2, 2, 0}, {0, 2, 2}};
        for (int thing = 0; thing < 2; thing++) {
            for (int place = 0; place < 3; place++) {
                DUE.is("sure(" + thing + ", " + place + ")", x.sure(thing, place), due[thing][place]);
            }
        }
        DUE.is("sure(2, 0)", x.sure(2, 0), -1);
        DUE.is("sure(-1, 0)", x.sure(-1, 0), -1);
        DUE.is("sure(0, 3)", x.sure(0, 3), -1);
        DUE.is("sure(0, -1)", x.sure(0, -1), -1);
        Due.say(x, "b a;");
        DUE.is("sure(0, 0) of nothing left", x.sure(0, 0), -1);
        OneVerb y = DUE.in("places 2;thing a weigh 1;thing b weigh 2;verb up first<second;");
        Due.say(y, "a b;");
        DUE.is("sure(0, 0)", y.sure(0, 0), 1);
        DUE.is("sure(0, 1)", y.sure(0, 1), 0);
        DUE.is("sure(1, 1)", y.sure(1, 1), 1);
    }

    private static void clashes() {
        OneVerb x = DUE.in("places 2;thing a weigh 1;thing b weigh 2;verb at first=second;verb up first<second;"
            + "week at up;");
        DUE.is("clash() at first", x.clash(), -1);
        Due.say(x, "a a;");
        Due.say(x, "a b;");
        Due.say(x, "b a;");
        Due.say(x, "not a b;");
        DUE.is("clash(): the least of two", x.clash(), 2 + 8);
        Due.say(x, "not a a;");
        DUE.is("clash(): one alone", x.clash(), 16);
        x.unsay(4);
        x.unsay(3);
        DUE.is("clash() of none", x.clash(), -1);
        Due.order(x, "a b;", 1);
        DUE.is("clash() ahead of an order", x.clash(), -1);
        x.dawn(1);
        DUE.is("clash() with an order", x.clash(), 2);
        Due.order(x, "b a;", 2);
        x.dawn(2);
        DUE.is("clash() of orders", x.clash(), 0);
    }

    /** 1,024 WORLDS: the sixteenth long counts as the first does. */
    private static void biggest() {
        OneVerb x = DUE.in("places 4;thing a weigh 1;thing b weigh 2;thing c weigh 3;thing d weigh 4;thing e weigh 5;"
            + "verb at first=second;verb up first<second;");
        DUE.is("worlds(0)", x.worlds(0), 1024);
        DUE.is("worlds(1)", x.worlds(1), 1024);
        DUE.is("left(1023)", x.left(1023), 1);
        DUE.is("left(1024)", x.left(1024), -1);
        Due.say(x, "a b and b c and c d and d e;");
        DUE.is("worlds(1)", x.worlds(1), 4);
        DUE.is("left(1023)", x.left(1023), 1);
        DUE.is("left(341)", x.left(341), 1);
        DUE.is("sure(4, 3)", x.sure(4, 3), 2);
        x.dawn(1);
        Due.say(x, "not a a;");
        DUE.is("worlds(1)", x.worlds(1), 4);
        Due.say(x, "a e;");
        DUE.is("worlds(1)", x.worlds(1), 0);
        DUE.is("clash()", x.clash(), 1 + 4);
        DUE.is("holds e, d", x.holds(16 * 20 + 12, 0, 1023 - 1), 0);
        DUE.is("holds e, d up", x.holds(16 * 20 + 12, 1, 1023 - 1), 1);
    }
}
