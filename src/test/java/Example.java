/** The program that README.md shows; ReadmeTest holds the two to each other. */
final class Example {
    /** Puts a text on the TAPE: 24 signs a call, as the bytes of three longs. */
    static void feed(OneVerb x, String text) {
        for (int at = 0; at < text.length(); at += 24) {
            x.feed(bytes(text, at), bytes(text, at + 8), bytes(text, at + 16));
        }
    }

    /** Eight signs from a place on, the first one highest; 0 behind the end, which feed leaves out. */
    static long bytes(String text, int at) {
        long all = 0;
        for (int i = at; i < at + 8; i++) {
            all = all << 8 | (i < text.length() ? text.charAt(i) : 0);
        }
        return all;
    }

    public static void main(String[] args) {
        OneVerb x = new OneVerb();
        feed(x, "places 3; thing cat weigh 4; thing dog weigh 9; bend past place + 1;");
        feed(x, "verb meets first = second; verb leads first < second; week meets silent leads;");
        feed(x, "speaker ann wants leads 5;");
        System.out.println("land " + x.land());

        feed(x, "cat dog;");
        System.out.println("say " + x.say());
        System.out.println("worlds left " + x.worlds(1) + " of " + x.worlds(0));

        feed(x, "past cat dog;");
        System.out.println("order " + x.order(2));
        feed(x, "cat cow;");
        int fault = x.ask();
        System.out.println("ask: fault of kind " + fault % 16 + " at place " + fault / 16);
        feed(x, "not cat dog;");
        System.out.println("ask " + x.ask() + ", meant " + x.meant(0) + " today and " + x.meant(2) + " on day 2");

        System.out.println("dawn " + x.dawn(1) + ", verb " + x.verb(1));
        System.out.println("dawn " + x.dawn(1) + ", worlds left " + x.worlds(1) + ", world 8 " + x.left(8));
        System.out.println("cat at place 2: " + x.sure(0, 2));
        System.out.println("ann rings for leads: verb " + x.rings(2) + ", rests " + x.rests(OneVerb.NONE));
        System.out.println("undo " + x.undo());
    }
}
