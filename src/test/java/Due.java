/** What the tests share: feeding texts, and telling answers that are not the ones due. */
final class Due {
    private int wrong = 0;
    private int asked = 0;
    private final String name;

    Due(String name) {
        this.name = name;
    }

    void is(String call, long got, long want) {
        asked++;
        if (got != want) {
            wrong++;
            System.out.println(name + ": " + call + " answered " + got + ", due is " + want);
        }
    }

    void is(String call, boolean got, boolean want) {
        is(call, got ? 1 : 0, want ? 1 : 0);
    }

    void is(String call, String got, String want) {
        boolean alike = got.equals(want);
        is(alike ? call : call + ": " + got + " for " + want, alike, true);
    }

    /** A new object in a LAND without a FAULT. */
    OneVerb in(String land) {
        OneVerb x = new OneVerb();
        is("land() of " + land, land(x, land), 0);
        return x;
    }

    /** Puts a text behind the TAPE, up to 24 signs a call. */
    static void feed(OneVerb x, String text) {
        for (int at = 0; at < text.length(); at += 24) {
            x.feed(bytes(text, at), bytes(text, at + 8), bytes(text, at + 16));
        }
    }

    static long bytes(String text, int at) {
        long all = 0;
        for (int i = at; i < at + 8; i++) {
            all = all << 8 | (i < text.length() ? text.charAt(i) : 0);
        }
        return all;
    }

    static int land(OneVerb x, String text) {
        feed(x, text);
        return x.land();
    }

    static int say(OneVerb x, String text) {
        feed(x, text);
        return x.say();
    }

    static int order(OneVerb x, String text, int days) {
        feed(x, text);
        return x.order(days);
    }

    static int ask(OneVerb x, String text) {
        feed(x, text);
        return x.ask();
    }

    void end() {
        System.out.println(name + ": " + (asked - wrong) + " as due, " + wrong + " not");
        if (wrong != 0) {
            System.exit(1);
        }
    }
}
