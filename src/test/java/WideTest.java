/** LANDS of every size, each WORLD, NOUN and CLAUSE of them (terms 2 and 3, promises 13 to 16, 20, 22, 27 to 31). */
final class WideTest {
    private static final String WEIGHTS = "13579";
    private static final Due DUE = new Due("WideTest");

    public static void main(String[] args) {
        for (int places = 2; places <= 4; places++) {
            for (int things = 0; things <= 5; things++) {
                worlds(places, things);
            }
        }
        lastClause();
        lastWorldSeen();
        literalsOfAll();
        sayableOfAll();
        DUE.end();
    }

    private static String things(int places, int many) {
        StringBuilder land = new StringBuilder("places " + places + ";");
        for (int i = 0; i < many; i++) {
            land.append("thing ").append((char) ('a' + i)).append(" weigh ").append(WEIGHTS.charAt(i)).append(";");
        }
        return land.toString();
    }

    private static int power(int base, int times) {
        int all = 1;
        for (int i = 0; i < times; i++) {
            all *= base;
        }
        return all;
    }

    /** THING 0's PLACE is the highest digit. */
    private static int placeIn(int world, int thing, int places, int things) {
        return world / power(places, things - 1 - thing) % places;
    }

    private static void worlds(int places, int things) {
        OneVerb x = DUE.in(things(places, things) + "verb up first<second;");
        String where = " of " + places + " places, " + things + " things";
        int worlds = power(places, things);
        DUE.is("worlds(0)" + where, x.worlds(0), worlds);
        DUE.is("worlds(1)" + where, x.worlds(1), worlds);
        DUE.is("left() of the last" + where, x.left(worlds - 1), 1);
        DUE.is("left() of one more" + where, x.left(worlds), -1);
        DUE.is("tells() of one more" + where, x.tells(worlds), -1);
        if (things > 0) {
            DUE.is("see() in the last" + where, x.see(0, worlds - 1, false), true);
            DUE.is("see() in one more" + where, x.see(0, worlds, false), false);
            DUE.is("holds() in one more" + where, x.holds(0, 0, worlds), -1);
            lastIsHighest(x, places, things, where);
        }
    }

    /** "a e" leaves the WORLDS in which a is at a lower PLACE than e. */
    private static void lastIsHighest(OneVerb x, int places, int things, String where) {
        int last = things - 1;
        int due = 0;
        int loopholes = 0;
        int leastLoophole = -1;
        int worlds = power(places, things);
        for (int world = worlds - 1; world >= 0; world--) {
            boolean so = placeIn(world, 0, places, things) < placeIn(world, last, places, things);
            due += so ? 1 : 0;
            loopholes += so ? 0 : 1;
            leastLoophole = so ? leastLoophole : world;
        }
        String text = "a " + (char) ('a' + last) + ";";
        Due.order(x, "not " + text, 1);
        Due.ask(x, text);
        DUE.is("meant(0)" + where, x.meant(0), due);
        DUE.is("ordered(0, 1)" + where, x.ordered(0, 1), loopholes);
        Due.say(x, text);
        DUE.is("worlds(1)" + where, x.worlds(1), due);
        DUE.is("asked()" + where, x.asked(), due);
        int step = worlds / 200 + 1;
        for (int world = 0; world < worlds; world += step) {
            int so = placeIn(world, 0, places, things) < placeIn(world, last, places, things) ? 1 : 0;
            DUE.is("left(" + world + ")" + where, x.left(world), so);
            DUE.is("holds(" + last * 4 + ", 0, " + world + ")" + where, x.holds(last * 4, 0, world), so);
        }
        for (int place = 0; things > 1 && place < places; place++) {
            DUE.is("sure(0, " + place + ")" + where, x.sure(0, place), place == places - 1 ? 0 : places == 2 ? 1 : 2);
            DUE.is("sure(last, " + place + ")" + where, x.sure(last, place), place == 0 ? 0 : places == 2 ? 1 : 2);
        }
        leastLoophole(places, things, where);
    }

    /** An ORDER for the DAY of a VERB that always holds: its LOOPHOLES are the WORLDS in which today's does not. */
    private static void leastLoophole(int places, int things, String where) {
        OneVerb x = DUE.in(things(places, things) + "bend f 0;verb pos 0<first+second;verb all 1;");
        StringBuilder text = new StringBuilder("not (f a a");
        for (int i = 0; i < things; i++) {
            text.append(" or f a ").append((char) ('a' + i));
        }
        // By pos: some THING is not at 0; so all of them are at 0 in the WORLDS that are meant.
        Due.ask(x, text + ");");
        DUE.is("meant(0): all are at 0" + where, x.meant(0), 1);
        int worlds = power(places, things);
        String last = "f a " + (char) ('a' + things - 1);
        Due.order(x, last + ";", 1);
        DUE.is("ordered(0, 2): the last is at 0" + where, x.ordered(0, 2), worlds / places);
        DUE.is("ordered(0, 3): the least" + where, x.ordered(0, 3), 0);
        OneVerb y = DUE.in(things(places, things) + "verb some not (first=" + (places - 1) + ");verb all 1;");
        Due.order(y, "a a;", 1);
        DUE.is("ordered(0, 1)" + where, y.ordered(0, 1), worlds);
        DUE.is("ordered(0, 2): a is at the last place" + where, y.ordered(0, 2), worlds / places);
        DUE.is("ordered(0, 3): the least of these" + where, y.ordered(0, 3), worlds - worlds / places);
    }

    /** Five THINGS, three BENDS: 399 is a CLAUSE; h leads from 0, 1, 2, 3 to 3, 2, 1, 0. */
    private static final String FULL = "bend f 0;bend g 1;bend h 3-place;";

    /** By v no other CLAUSE tells what the last one does: e is at 1. */
    private static void lastClause() {
        OneVerb x = DUE.in(things(4, 5) + FULL + "verb v first=2 and second=2 and light=9 and heavy=9;verb w 0;");
        int[] due = {0, 1, 0, 0};
        for (int world = 0; world < 1024; world += 5) {
            DUE.is("holds(399, 0, " + world + ")", x.holds(399, 0, world), due[world % 4]);
        }
        DUE.is("holds(399, 1, 1)", x.holds(399, 1, 1), 0);
        DUE.is("holds(400, 0, 1)", x.holds(400, 0, 1), -1);
        Due.ask(x, "h e h e;");
        DUE.is("meant(0)", x.meant(0), 256);
        int[] positive = {4, 0, 798, -1};
        int[] contrary = {5, 0, 799, -1};
        for (int what = 0; what < 4; what++) {
            DUE.is("shortest(0, " + what + ") of the last clause", x.shortest(0, what), positive[what]);
        }
        Due.ask(x, "not h e h e;");
        for (int what = 0; what < 4; what++) {
            DUE.is("shortest(0, " + what + ") of the last literal", x.shortest(0, what), contrary[what]);
        }
        x.dawn(1);
        DUE.is("shortest(1, 2): by w not a a means all", x.shortest(1, 2), 1);
        DUE.is("two(0, 0) by w and v", x.two(0, 0), 1);
        DUE.is("two(0, 1)", x.two(0, 1), 1);
        DUE.is("two(0, 2)", x.two(0, 2), 799);
        x.dawn(1);
        DUE.is("two(0, 0) by v and w", x.two(0, 0), 1);
        DUE.is("two(0, 1)", x.two(0, 1), 799);
        DUE.is("two(0, 2)", x.two(0, 2), 1);
    }

    /** SEEN in the last WORLD of the last CLAUSE: not in another. */
    private static void lastWorldSeen() {
        String land = things(4, 5) + FULL + "verb v second=0 and heavy=9;verb w second=2 and heavy=9;verb z 1;";
        OneVerb x = DUE.in(land);
        DUE.is("see(399, 1023, true)", x.see(399, 1023, true), true);
        DUE.is("knows()", x.knows(), 1 + 4);
        DUE.is("see(399, 1022, true)", x.see(399, 1022, true), true);
        DUE.is("knows()", x.knows(), 4);
        DUE.is("see(399, 1024, true)", x.see(399, 1024, true), false);
        DUE.is("see(400, 1023, true)", x.see(400, 1023, true), false);
        OneVerb y = DUE.in(land);
        DUE.is("see(399, 1023, false)", y.see(399, 1023, false), true);
        DUE.is("knows()", y.knows(), 2);
        // a's PLACE is the highest digit: World 300 has it at 1, so h a is at 2 there; 255 is the last that has it at 0.
        OneVerb high = DUE.in(things(4, 5) + FULL + "verb v second=2 and heavy=1;verb w second=3 and heavy=1;verb z 1;");
        int clause = 19 * 20 + 3;
        DUE.is("see(383, 300, true)", high.see(clause, 300, true), true);
        DUE.is("knows()", high.knows(), 1 + 4);
        DUE.is("see(383, 256, false)", high.see(clause, 256, false), true);
        DUE.is("knows() of what can't be", high.knows(), 0);
        OneVerb higher = DUE.in(things(4, 5) + FULL + "verb v second=2 and heavy=1;verb w second=3 and heavy=1;verb z 1;");
        DUE.is("see(383, 255, true)", higher.see(clause, 255, true), true);
        DUE.is("knows()", higher.knows(), 2 + 4);
        DUE.is("see(383, 1023, false)", higher.see(clause, 1023, false), true);
        DUE.is("knows()", higher.knows(), 2);
        OneVerb z = DUE.in(things(4, 5) + FULL + "verb v first=1 and light=9 and second=1 and heavy=9;verb w 0;");
        // By v both NOUNS are at 1, and of e.
        DUE.is("tells(1): e e", z.tells(1), 16 * 20 + 16);
        DUE.is("tells(0): g e g e", z.tells(0), 18 * 20 + 18);
        DUE.is("tells(2): g e g e ahead of h e h e", z.tells(2), 18 * 20 + 18);
        OneVerb last = DUE.in(things(4, 5) + FULL + "verb v first=3 and light=9 and second=3 and heavy=9;verb w 0;");
        DUE.is("tells(0): h e h e", last.tells(0), 399);
        DUE.is("tells(1): none", last.tells(1), -1);
    }

    /** Each LITERAL of two THINGS and a BEND is found again as the shortest way, where no other means the same. */
    private static void literalsOfAll() {
        OneVerb x = DUE.in("places 4;thing a weigh 0;thing b weigh 1;bend f place+1;"
            + "verb v first*4+second=3 or first*4+second=5 or first*4+second=11;");
        String[] nouns = {"a", "f a", "b", "f b"};
        int[] numbers = {0, 1, 4, 5};
        for (int i = 0; i < 4; i++) {
            for (int j = 0; j < 4; j++) {
                int clause = numbers[i] * 20 + numbers[j];
                literal(x, nouns[i] + " " + nouns[j], clause * 2);
                literal(x, "not " + nouns[i] + " " + nouns[j], clause * 2 + 1);
            }
        }
    }

    private static void literal(OneVerb x, String text, int number) {
        Due.ask(x, text + ";");
        int words = text.split(" ").length;
        int[] due = {words, 0, number, -1};
        for (int what = 0; what < 4; what++) {
            DUE.is("shortest(0, " + what + ") of " + text, x.shortest(0, what), due[what]);
        }
    }

    /** By a VERB of the first's PLACE and of the second's: each THING at each PLACE, by each of the two. */
    private static void sayableOfAll() {
        for (int places = 2; places <= 4; places++) {
            for (int things = 1; things <= 5; things++) {
                for (int wanted = 0; wanted < places; wanted++) {
                    OneVerb x = DUE.in(things(places, things) + "verb one first=" + wanted + ";verb two second=" + wanted
                        + ";verb gone not (first=" + wanted + ");verb pair first=" + wanted + " and (second=" + wanted
                        + ") and not alike;verb heavyone second=" + wanted + " and heavy=1 and not alike;");
                    for (int thing = 0; thing < things; thing++) {
                        for (int place = 0; place < places; place++) {
                            boolean so = place == wanted || places == 2;
                            int heavyone = thing == 0 && things > 1 ? 16 : 0;
                            DUE.is("sayable(" + thing + ", " + place + ") of " + wanted + " among " + places + ", "
                                + things, x.sayable(thing, place), so ? 7 + heavyone : 0);
                        }
                    }
                    DUE.is("cover(1)", x.cover(1), 1);
                    DUE.is("cover(0)", x.cover(0), 1);
                }
            }
        }
        // A VERB that never holds of one THING with itself says nothing of it, at the last PLACE too.
        OneVerb none = DUE.in("places 4;thing a weigh 1;verb never not alike;verb all 1;");
        for (int place = 0; place < 4; place++) {
            DUE.is("sayable(0, " + place + ") by never and all", none.sayable(0, place), 0);
        }
    }
}
