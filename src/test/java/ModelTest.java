import java.util.NoSuchElementException;
import java.util.Random;

/** Runs of random calls, answered by the class and by the plain model of it alike (all promises). */
final class ModelTest {
    private static final String[] NAMES = {"a", "b", "c", "d", "e", "f", "g", "h", "meet", "lead", "first", "place",
        "up", "down", "letterss", "toolongword", "x"};
    private static final String[] SCRAPS = {"not", "and", "or", "(", ")", "<", "=", "+", "-", "*", ";", "places",
        "thing", "weigh", "bend", "verb", "week", "silent", "speaker", "wants", "bribe", "7", "100", "12345", "!",
        "A", "a", "b", "u", "v", "first", "place", " ", "\n", ",", "0002"};

    private final Random random;
    private final Due due;
    private final OneVerb x = new OneVerb();
    private final Model m = new Model();
    private final int run;
    private int things;
    private int bends;
    private int verbs;

    private ModelTest(long seed, int run, Due due) {
        this.random = new Random(seed);
        this.run = run;
        this.due = due;
    }

    public static void main(String[] args) {
        Due due = new Due("ModelTest");
        int runs = args.length > 0 ? Integer.parseInt(args[0]) : 300;
        long base = args.length > 1 ? Long.parseLong(args[1]) : 1;
        for (int run = 0; run < runs; run++) {
            new ModelTest(base * 1_000_003L + run, run, due).go();
        }
        due.end();
    }

    private void go() {
        tell(landText());
        is("land()", x.land(), m.land());
        int calls = 60 + random.nextInt(60);
        for (int i = 0; i < calls; i++) {
            step();
        }
    }

    private void is(String call, long got, long want) {
        due.is("run " + run + " " + call, got, want);
    }

    private void is(String call, boolean got, boolean want) {
        is(call, got ? 1 : 0, want ? 1 : 0);
    }

    private int below(int most) {
        return random.nextInt(most);
    }

    private String pick(String... texts) {
        return texts[below(texts.length)];
    }

    /** Now and then a number from a little outside. */
    private int about(int most) {
        return below(8) == 0 ? below(most + 5) - 2 : below(Math.max(most, 1));
    }

    private void tell(String text) {
        for (int at = 0; at < text.length(); at += 24) {
            long a = Due.bytes(text, at);
            long b = Due.bytes(text, at + 8);
            long c = Due.bytes(text, at + 16);
            is("feed", x.feed(a, b, c), m.feed(a, b, c));
        }
    }

    // ---- texts

    private String landText() {
        boolean big = below(12) == 0;
        things = big ? 4 + below(2) : below(8) == 0 ? below(6) : 1 + below(3);
        bends = things < 4 ? below(4) : below(2);
        verbs = below(10) == 0 ? 0 : 1 + below(6);
        int places = big || things < 4 ? 2 + below(3) : 2;
        StringBuilder text = new StringBuilder("places " + places + ";");
        for (int i = 0; i < things; i++) {
            text.append("thing ").append("abcde".charAt(i)).append(" weigh ").append(below(100)).append(";\n");
        }
        for (int i = 0; i < bends; i++) {
            text.append("bend ").append("fgh".charAt(i)).append(' ').append(e(BEND, 0)).append(";");
        }
        for (int i = 0; i < verbs; i++) {
            text.append("verb ").append("uvwxyz".charAt(i)).append(' ').append(e(VERB, 0)).append(" ;");
        }
        if (verbs > 0 && below(3) > 0) {
            text.append("week");
            for (int i = below(7); i >= 0; i--) {
                text.append(below(4) == 0 ? " silent" : " " + "uvwxyz".charAt(below(verbs)));
            }
            text.append(";");
        }
        for (int i = 0; verbs > 0 && i < below(4) + i / 3; i++) {
            text.append("speaker ").append("pqr".charAt(i)).append(" wants");
            for (int v = below(verbs); v < verbs; v += 1 + below(2)) {
                text.append(' ').append("uvwxyz".charAt(v)).append(' ').append(below(3) == 0 ? below(100) : below(9));
            }
            text.append(";");
            if (i == 2) {
                break;
            }
        }
        if (below(2) == 0) {
            text.append("bribe ").append(below(6)).append(";");
        }
        return below(6) == 0 ? spoil(text) : text.toString();
    }

    private static final String[] BEND = {"place", "weight"};
    private static final String[] VERB = {"first", "second", "light", "heavy", "alike", "first", "second"};

    private String e(String[] facts, int depth) {
        int kind = below(depth > 2 ? 3 : 12);
        String a = depth > 2 ? "" : e(facts, depth + 1);
        String b = depth > 2 ? "" : e(facts, depth + 1);
        switch (kind) {
            case 0:
                return Integer.toString(below(3) == 0 ? below(10000) : below(5));
            case 1, 2:
                return facts[below(facts.length)];
            case 3:
                return "not " + facts[below(facts.length)];
            case 4:
                return "(" + a + ")" + pick("<", "=", "*", "+") + "(" + b + ")";
            default:
                return facts[below(facts.length)] + pick("<", "=", "+", "-", "*", " and ", " or ", "=", "<")
                    + (below(2) == 0 ? facts[below(facts.length)] : "(" + b + ")");
        }
    }

    private String formula(int depth) {
        if (depth > 3 || below(3) == 0) {
            return noun() + " " + noun();
        }
        return switch (below(5)) {
            case 0 -> "not " + formula(depth + 1);
            case 1 -> "(" + formula(depth + 1) + ")";
            case 2 -> formula(depth + 1) + " or " + formula(depth + 1);
            case 3 -> formula(depth + 1) + " and " + formula(depth + 1);
            default -> noun() + " " + noun();
        };
    }

    private String noun() {
        String noun = "" + (things == 0 ? 'a' : "abcde".charAt(below(things)));
        for (int i = below(6) - 3; bends > 0 && i > 0; i--) {
            noun = "fgh".charAt(below(bends)) + " " + noun;
        }
        return below(60) == 0 ? pick(NAMES) : noun;
    }

    private String sayingText() {
        String text = formula(0) + ";";
        return below(6) == 0 ? spoil(new StringBuilder(text)) : text;
    }

    private String spoil(StringBuilder text) {
        for (int i = below(3); i >= 0; i--) {
            int place = below(text.length() + 1);
            switch (below(4)) {
                case 0:
                    text.insert(place, pick(SCRAPS));
                    break;
                case 1:
                    text.setLength(place);
                    break;
                case 2:
                    text.insert(place, " " + pick(SCRAPS) + " ");
                    break;
                default:
                    text.delete(place, Math.min(text.length(), place + 1 + below(8)));
                    break;
            }
        }
        return text.toString();
    }

    // ---- calls

    private void step() {
        switch (below(12)) {
            case 0, 1, 2:
                change();
                break;
            case 3:
                if (below(4) == 0) {
                    sayAndUndo();
                }
                break;
            case 4:
                small();
                break;
            default:
                askAway();
                break;
        }
        int what = below(16) - 1;
        is("count(" + what + ")", x.count(what), m.count(what));
    }

    private void change() {
        int days = below(10) == 0 ? below(120) - 10 : 1 + below(8);
        switch (below(10)) {
            case 0, 1:
                tell(sayingText());
                is("say()", x.say(), m.say());
                break;
            case 2:
                tell(sayingText());
                is("order(" + days + ")", x.order(days), m.order(days));
                break;
            case 3, 4:
                tell(sayingText());
                is("ask()", x.ask(), m.ask());
                break;
            case 5:
                is("dawn(" + days + ")", x.dawn(days), m.dawn(days));
                break;
            case 6:
                int saying = about(m.count(7));
                is("unsay(" + saying + ")", x.unsay(saying), m.unsay(saying));
                break;
            case 7:
                is("undo()", x.undo(), m.undo());
                break;
            case 8:
                int mark = below(6) - 1;
                boolean back = below(2) == 0;
                is("mark(" + mark + ", " + back + ")", x.mark(mark, back), m.mark(mark, back));
                break;
            default:
                if (below(6) == 0) {
                    String text = landText();
                    tell(text);
                    is("land() of " + text, x.land(), m.land());
                }
                break;
        }
    }

    /** More SAYINGS than may be SAID, some UNSAID, more undone than can be. */
    private void sayAndUndo() {
        for (int i = below(16); i >= 0; i--) {
            tell(formula(3) + ";");
            is("say()", x.say(), m.say());
            if (below(4) == 0) {
                int saying = below(Math.max(m.count(7), 1));
                is("unsay(" + saying + ")", x.unsay(saying), m.unsay(saying));
            }
            is("worlds(1)", x.worlds(1), m.worlds(1));
        }
        is("clash()", x.clash(), m.clash());
        is("count(11)", x.count(11), m.count(11));
        for (int i = below(16); i >= 0; i--) {
            is("undo()", x.undo(), m.undo());
            is("saying(0, 1)", x.saying(0, 1), m.saying(0, 1));
            is("saying(5, 1)", x.saying(5, 1), m.saying(5, 1));
            is("worlds(1)", x.worlds(1), m.worlds(1));
        }
    }

    private int clause() {
        int number = below(20) * 20 + below(20);
        return below(3) == 0 ? number : below(Math.max(things, 1)) * 80 + below(Math.max(things, 1)) * 4
            + below(bends + 1) * 20 + below(bends + 1);
    }

    private void small() {
        int what = below(6) - 1;
        int other = below(6) - 1;
        int day = about(12);
        int world = about(m.worlds(0));
        int clause = below(20) == 0 ? below(2) * 401 - 1 : clause();
        boolean so = below(2) == 0;
        switch (below(9)) {
            case 0:
                is("thing(" + what + ")", x.thing(what), m.thing(what));
                break;
            case 1:
                is("verb(" + day + ")", x.verb(day), m.verb(day));
                break;
            case 2:
                is("worlds(" + what + ")", x.worlds(what), m.worlds(what));
                break;
            case 3:
                is("left(" + world + ")", x.left(world), m.left(world));
                break;
            case 4:
                String call = "holds(" + clause + ", " + day + ", " + world + ")";
                is(call, x.holds(clause, day, world), m.holds(clause, day, world));
                break;
            case 5:
                is("see(" + clause + ", " + world + ")", x.see(clause, world, so), m.see(clause, world, so));
                break;
            case 6:
                is("knows()", x.knows(), m.knows());
                break;
            case 7:
                is("tells(" + world + ")", x.tells(world), m.tells(world));
                break;
            default:
                is("sayable(" + what + ", " + other + ")", x.sayable(what, other), m.sayable(what, other));
                break;
        }
    }

    private void askAway() {
        int what = below(6) - 1;
        int number = about(Math.max(m.count(7), m.count(8)));
        int day = about(12);
        int other = about(12);
        switch (below(15)) {
            case 0:
                is("saying(" + number + ", " + what + ")", x.saying(number, what), m.saying(number, what));
                break;
            case 1:
                is("ordered(" + number + ", " + what + ")", x.ordered(number, what), m.ordered(number, what));
                break;
            case 2:
                is("meant(" + day + ")", x.meant(day), m.meant(day));
                break;
            case 3:
                is("same(" + day + ", " + other + ")", x.same(day, other), m.same(day, other));
                break;
            case 4:
                is("asked()", x.asked(), m.asked());
                break;
            case 5:
                int place = below(6) - 1;
                is("sure(" + what + ", " + place + ")", x.sure(what, place), m.sure(what, place));
                break;
            case 6:
                is("clash()", x.clash(), m.clash());
                break;
            case 7, 8:
                searches(day, what);
                break;
            case 9:
                is("riddle(" + day + ")", x.riddle(day), m.riddle(day));
                break;
            case 10:
                int digits = about(1 << 3 * m.count(4));
                is("rings(" + digits + ")", ringsOfClass(digits), ringsOfModel(digits));
                break;
            case 11:
                is("rests(" + what + ")", x.rests(what), m.rests(what));
                break;
            case 12:
                is("cover(" + what + ")", x.cover(what), m.cover(what));
                break;
            default:
                int seed = below(20) == 0 ? below(20000) - 5000 : below(10000);
                int days = below(10) == 0 ? below(90) - 10 : 1 + below(20);
                String call = "year(" + seed + ", " + days + ", " + what + ")";
                is(call, x.year(seed, days, what), m.year(seed, days, what));
                break;
        }
    }

    private void searches(int day, int what) {
        // The model tries all pairs: with many NOUNS that would take too long.
        if (m.count(1) * (1 + m.count(2)) > 8) {
            return;
        }
        if (below(2) == 0) {
            is("shortest(" + day + ", " + what + ")", x.shortest(day, what), m.shortest(day, what));
        } else {
            is("two(" + day + ", " + what + ")", x.two(day, what), m.two(day, what));
        }
    }

    private long ringsOfClass(int digits) {
        try {
            return x.rings(digits);
        } catch (NoSuchElementException e) {
            return -99;
        }
    }

    private long ringsOfModel(int digits) {
        try {
            return m.rings(digits);
        } catch (NoSuchElementException e) {
            return -99;
        }
    }
}
