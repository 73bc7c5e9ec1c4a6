/** The TAPE (promise 2), and who takes it. */
final class TapeTest {
    public static void main(String[] args) {
        Due due = new Due("TapeTest");
        OneVerb x = new OneVerb();
        due.is("feed of nothing", x.feed(0, 0, 0), 0);
        due.is("feed of 24", x.feed(Due.bytes("places 3", 0), Due.bytes(";thing a", 0), Due.bytes(" weigh 7", 0)), 24);
        due.is("feed of one more", x.feed(0, 0, ';'), 25);
        due.is("count(13)", x.count(13), 25);
        due.is("land()", x.land(), 0);
        due.is("count(13) behind land()", x.count(13), 0);
        due.is("thing(0)", x.thing(0), 7);

        // 0x0A and 0x20 .. 0x7E are signs, their neighbours are none.
        due.is("feed of edges", x.feed(0x090A0B1F207E7F80L, 0xFF00A0C1FEDCBA98L, -1L), 3);
        due.is("ask() of line feed, blank, tilde", x.ask(), 1 + 16 * 2);
        due.is("count(13) behind ask()", x.count(13), 0);

        // What is left out takes no room, so a text may come with gaps.
        x.feed(0x6100200061003B00L, 0, 0);
        due.is("ask() of a text with gaps", x.ask(), 0);
        x.feed(0x80L << 56 | 'a', 0x20L << 56, 'b');
        due.is("count(13)", x.count(13), 3);
        due.is("say()", x.say(), 2 + 16 * 2);
        due.is("count(13) behind say()", x.count(13), 0);
        x.feed('a', 0, 0);
        due.is("order(0)", x.order(0), 1 + 16);
        due.is("count(13) behind order()", x.count(13), 0);

        full(due);
        due.end();
    }

    /** Beyond 1,000 signs nothing comes. */
    private static void full(Due due) {
        OneVerb x = new OneVerb();
        long blanks = 0x2020202020202020L;
        for (int i = 1; i <= 41; i++) {
            due.is("feed " + i, x.feed(blanks, blanks, blanks), 24 * i);
        }
        due.is("feed of 11", x.feed(blanks, 0x202020, 0), 995);
        due.is("feed of 6 where 5 go", x.feed(0, Due.bytes("aaaaa", 0), 'b'), 1000);
        due.is("feed of more", x.feed(blanks, blanks, blanks), 1000);
        due.is("land()", x.land(), 1 + 16 * 995);
        due.is("count(13)", x.count(13), 0);
        for (int i = 0; i < 42; i++) {
            x.feed(blanks, blanks, blanks);
        }
        due.is("land() of 1,000 blanks", x.land(), 1 + 16 * 1000);
    }
}
