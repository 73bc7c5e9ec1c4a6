/** The TAPE (promise 2), and who takes it. */
final class TapeTest {
    public static void main(String[] args) {
        Due due = new Due("TapeTest");
        OneVerb x = new OneVerb();
        due.is("feed of nothing", x.feed(0, 0, 0), 0);
        due.is("feed of 24", x.feed(Due.bytes("places 3", 0), Due.bytes(";thing a", 0), Due.bytes(" weigh 7", 0)), 24);
        due.is("feed of one more", x.feed(0, 0, ';'), 25);
        due.is("count(13)", x.count(13), 25);
        due.is("land()", x.land(), 0);
        due.is("count(13) behind land()", x.count(13), 0);
        due.is("thing(0)", x.thing(0), 7);

        // 0x0A and 0x20 .. 0x7E are signs, their neighbours are none.
        due.is("feed of edges", x.feed(0x090A0B1F207E7F80L, 0xFF00A0C1FEDCBA98L, -1L), 3);
        due.is("ask() of line feed, blank, tilde", x.ask(), 1 + 16 * 2);
        due.is("count(13) behind ask()", x.count(13), 0);

        // What is left out takes no room, so a text may come with gaps.
        x.feed(0x6100200061003B00L, 0, 0);
        due.is("ask() of a text with gaps", x.ask(), 0);
        x.feed(0x80L << 56 | 'a', 0x20L << 56, 'b');
        due.is("count(13)", x.count(13), 3);
        due.is("say()", x.say(), 2 + 16 * 2);
        due.is("count(13) behind say()", x.count(13), 0);
        x.feed('a', 0, 0);
        due.is("order(0)", x.order(0), 1 + 16);
        due.is("count(13) behind order()", x.count(13), 0);

        full(due);
        lastSign(due);
        allBytes(due);
        readers(due);
        due.end();
    }

    /** A text of 1,000 signs is read to its last one; of one more the last is left out. */
    private static void lastSign(Due due) {
        OneVerb x = new OneVerb();
        Due.feed(x, " ".repeat(991) + "places 4;");
        due.is("count(13) of 1,000 signs", x.count(13), 1000);
        due.is("land() of 1,000 signs", x.land(), 0);
        due.is("count(0)", x.count(0), 4);
        Due.feed(x, " ".repeat(992) + "places 3;");
        due.is("count(13) of 1,001 signs", x.count(13), 1000);
        due.is("land() of 1,001 signs", x.land(), 1 + 16 * 1000);
        Due.feed(x, " ".repeat(993) + "places 3;");
        due.is("land() of 1,002 signs", x.land(), 1 + 16 * 1000);
        due.is("count(0) behind these", x.count(0), 4);
        for (int i = 0; i < 125; i++) {
            x.feed(0, 0, 0x2020202020202020L);
        }
        due.is("feed of what is no sign, to a full TAPE", x.feed(0, -1L, 9), 1000);
    }

    /** 10 and 32 .. 126 of all bytes are signs, in each of the three numbers. */
    private static void allBytes(Due due) {
        OneVerb x = new OneVerb();
        int many = 0;
        for (int b = 0; b < 256; b++) {
            long one = (long) b << 8 * (b % 8);
            many += b == 10 || b >= 32 && b <= 126 ? 1 : 0;
            int got = b % 3 == 0 ? x.feed(one, 0, 0) : b % 3 == 1 ? x.feed(0, one, 0) : x.feed(0, 0, one);
            due.is("feed of byte " + b, got, many);
        }
        due.is("the signs of all bytes", many, 96);
        OneVerb y = new OneVerb();
        due.is("feed of 24 bytes in order", y.feed(Due.bytes("places 2", 0), Due.bytes(";thing a", 0),
            Due.bytes(" weigh 9", 0)), 24);
        due.is("feed behind them", y.feed(0, 0x3BL << 32, 0), 25);
        due.is("land() of these", y.land(), 0);
        due.is("thing(0) of these", y.thing(0), 9);
    }

    /** What reads the TAPE takes it, whatever it answers. */
    private static void readers(Due due) {
        OneVerb x = due.in("places 2;thing a weigh 1;verb v 1;week v silent;");
        for (int i = 0; i < 12; i++) {
            due.is("say()", Due.say(x, "a a;"), 0);
        }
        due.is("say() of a thirteenth", Due.say(x, "a a;"), -3);
        due.is("count(13) behind -3", x.count(13), 0);
        x.dawn(1);
        due.is("say() on a silent day", Due.say(x, "a a;"), -2);
        due.is("count(13) behind -2", x.count(13), 0);
        due.is("order(0)", Due.order(x, "a a;", 0), -2);
        due.is("count(13) behind order(0)", x.count(13), 0);
        for (int i = 1; i <= 4; i++) {
            due.is("order()", Due.order(x, "a a;", i), 0);
        }
        due.is("order() of a fifth", Due.order(x, "a a;", 1), -3);
        due.is("count(13) behind a fifth", x.count(13), 0);
        due.is("land() of a saying", Due.land(x, "a a;"), 1);
        due.is("count(13) behind a FAULT", x.count(13), 0);
        due.is("say() of nothing", x.say(), 1);
        due.is("order() of nothing", x.order(1), 1);
        due.is("ask() of nothing", x.ask(), 1);
        due.is("land() of nothing", x.land(), 1);
        Due.feed(x, "a ");
        x.dawn(1);
        x.unsay(0);
        x.undo();
        x.mark(0, false);
        x.mark(0, true);
        due.is("count(13) behind what reads nothing", x.count(13), 2);
        Due.feed(x, "a;");
        due.is("ask() of a text in two parts", x.ask(), 0);
    }

    /** Beyond 1,000 signs nothing comes. */
    private static void full(Due due) {
        OneVerb x = new OneVerb();
        long blanks = 0x2020202020202020L;
        for (int i = 1; i <= 41; i++) {
            due.is("feed " + i, x.feed(blanks, blanks, blanks), 24 * i);
        }
        due.is("feed of 11", x.feed(blanks, 0x202020, 0), 995);
        due.is("feed of 6 where 5 go", x.feed(0, Due.bytes("aaaaa", 0), 'b'), 1000);
        due.is("feed of more", x.feed(blanks, blanks, blanks), 1000);
        due.is("land()", x.land(), 1 + 16 * 995);
        due.is("count(13)", x.count(13), 0);
        for (int i = 0; i < 42; i++) {
            x.feed(blanks, blanks, blanks);
        }
        due.is("land() of 1,000 blanks", x.land(), 1 + 16 * 1000);
    }
}
