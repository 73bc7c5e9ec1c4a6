import java.util.ArrayList;
import java.util.Arrays;
import java.util.Comparator;
import java.util.HashMap;
import java.util.List;
import java.util.Map;
import java.util.NoSuchElementException;
import java.util.Set;

/**
 * The document once more, as slowly and plainly as can be: WORLDS one by one, laws as trees, the state copied
 * whole. ModelTest runs it beside the class.
 */
final class Model {
    private static final Set<String> RESERVED = Set.of("places", "thing", "weigh", "bend", "verb", "week", "silent",
        "speaker", "wants", "bribe", "not", "and", "or");

    /** A FAULT on its way out of the reading. */
    private static final class Fault extends RuntimeException {
        private static final long serialVersionUID = 1L;
        final int number;

        Fault(int kind, int place) {
            number = kind + 16 * place;
        }
    }

    private record Token(String text, int place) {
        boolean isWord() {
            return text.matches("[a-z]{1,8}");
        }

        boolean isNumber() {
            return text.matches("[0-9]{1,4}");
        }

        boolean isName() {
            return isWord() && !RESERVED.contains(text);
        }
    }

    /** A tree of an E or of a FORMULA: a text and its parts. */
    private record Tree(String text, List<Tree> parts) {
        static Tree of(String text, Tree... parts) {
            return new Tree(text, List.of(parts));
        }
    }

    private static final class Speaker {
        final Map<String, Integer> wants = new HashMap<>();
    }

    private static final class Land {
        int places = 2;
        int bribe = 1;
        boolean bribeTold;
        final List<String> things = new ArrayList<>();
        final List<Integer> weights = new ArrayList<>();
        final List<String> bends = new ArrayList<>();
        final List<Tree> bendLaws = new ArrayList<>();
        final List<String> verbs = new ArrayList<>();
        final List<Tree> verbLaws = new ArrayList<>();
        final List<String> speakerNames = new ArrayList<>();
        final List<Speaker> speakers = new ArrayList<>();
        final List<String> week = new ArrayList<>();

        boolean isTold(String name) {
            return things.contains(name) || bends.contains(name) || verbs.contains(name)
                || speakerNames.contains(name);
        }
    }

    private record Said(Tree formula, int toldOn, int day) { }

    private record Seen(int clause, int world, boolean holds) { }

    private record State(int day, List<Said> said, List<Said> orders, Tree asked, List<Seen> seen) { }

    private record Deed(List<Said> said, List<Said> orders) { }

    private String tape = "";
    private Land land = new Land();
    private State now = new State(0, List.of(), List.of(), null, List.of());
    private final List<Deed> deeds = new ArrayList<>();
    private final State[] marks = new State[4];

    private List<Token> tokens = List.of();
    private int at;

    // ---- reading

    private static List<Token> scan(String text) {
        List<Token> found = new ArrayList<>();
        int i = 0;
        while (i < text.length()) {
            char c = text.charAt(i);
            int j = i + 1;
            if (c == ' ' || c == '\n') {
                i++;
                continue;
            }
            String alike = Character.isDigit(c) ? "[0-9]+" : c >= 'a' && c <= 'z' ? "[a-z]+" : null;
            while (alike != null && j < text.length() && text.substring(i, j + 1).matches(alike)) {
                j++;
            }
            found.add(new Token(text.substring(i, j), i));
            i = j;
        }
        found.add(new Token("", text.length()));
        return found;
    }

    private void openTape() {
        tokens = scan(tape);
        tape = "";
        at = 0;
    }

    private Token here() {
        return tokens.get(at);
    }

    private boolean isHere(String text) {
        return here().text.equals(text);
    }

    private boolean takes(String text) {
        if (!isHere(text)) {
            return false;
        }
        at++;
        return true;
    }

    private void need(String text) {
        if (!takes(text)) {
            throw new Fault(1, here().place);
        }
    }

    private int needNumber(int least, int most) {
        if (!here().isNumber()) {
            throw new Fault(1, here().place);
        }
        int value = Integer.parseInt(here().text);
        if (value < least || value > most) {
            throw new Fault(4, here().place);
        }
        at++;
        return value;
    }

    private String needNewName(Land told) {
        if (!here().isName()) {
            throw new Fault(1, here().place);
        }
        if (told.isTold(here().text)) {
            throw new Fault(3, here().place);
        }
        return tokens.get(at++).text;
    }

    private Land readLand() {
        Land told = new Land();
        need("places");
        told.places = needNumber(2, 4);
        need(";");
        while (at < tokens.size() - 1) {
            Token first = here();
            at++;
            switch (first.text) {
                case "thing" -> {
                    few(told.things, 5, first);
                    String name = needNewName(told);
                    need("weigh");
                    told.weights.add(needNumber(0, 99));
                    told.things.add(name);
                }
                case "bend" -> {
                    few(told.bends, 3, first);
                    told.bends.add(needNewName(told));
                    told.bendLaws.add(readE(List.of("place", "weight"), 0));
                }
                case "verb" -> {
                    few(told.verbs, 6, first);
                    told.verbs.add(needNewName(told));
                    told.verbLaws.add(readE(List.of("first", "second", "light", "heavy", "alike"), 0));
                }
                case "week" -> readWeek(told, first);
                case "speaker" -> readSpeaker(told, first);
                case "bribe" -> {
                    if (told.bribeTold) {
                        throw new Fault(3, first.place);
                    }
                    told.bribeTold = true;
                    told.bribe = needNumber(0, 99);
                }
                default -> throw new Fault(1, first.place);
            }
            need(";");
        }
        return told;
    }

    private static void few(List<?> list, int most, Token first) {
        if (list.size() == most) {
            throw new Fault(5, first.place);
        }
    }

    private String needVerb(Land told) {
        Token token = here();
        if (!token.isName()) {
            throw new Fault(1, token.place);
        }
        if (!told.verbs.contains(token.text)) {
            throw new Fault(2, token.place);
        }
        at++;
        return token.text;
    }

    private void readWeek(Land told, Token first) {
        if (!told.week.isEmpty()) {
            throw new Fault(3, first.place);
        }
        do {
            Token token = here();
            String day = takes("silent") ? "silent" : needVerb(told);
            few(told.week, 7, token);
            told.week.add(day);
        } while (!isHere(";"));
    }

    private void readSpeaker(Land told, Token first) {
        few(told.speakers, 3, first);
        told.speakerNames.add(needNewName(told));
        Speaker speaker = new Speaker();
        told.speakers.add(speaker);
        need("wants");
        do {
            Token token = here();
            String verb = needVerb(told);
            if (speaker.wants.containsKey(verb)) {
                throw new Fault(3, token.place);
            }
            speaker.wants.put(verb, needNumber(0, 99));
        } while (!isHere(";"));
    }

    private Tree readE(List<String> facts, int depth) {
        Tree all = readTest(facts, depth);
        while (isHere("and") || isHere("or")) {
            String by = tokens.get(at++).text;
            all = Tree.of(by, all, readTest(facts, depth));
        }
        return all;
    }

    private Tree readTest(List<String> facts, int depth) {
        Tree sum = readSum(facts, depth);
        if (takes("<")) {
            return Tree.of("<", sum, readSum(facts, depth));
        }
        return takes("=") ? Tree.of("=", sum, readSum(facts, depth)) : sum;
    }

    private Tree readSum(List<String> facts, int depth) {
        Tree all = readProduct(facts, depth);
        while (isHere("+") || isHere("-")) {
            String by = tokens.get(at++).text;
            all = Tree.of(by, all, readProduct(facts, depth));
        }
        return all;
    }

    private Tree readProduct(List<String> facts, int depth) {
        Tree all = readPart(facts, depth);
        while (takes("*")) {
            all = Tree.of("*", all, readPart(facts, depth));
        }
        return all;
    }

    private Tree readPart(List<String> facts, int depth) {
        Token token = here();
        boolean fit = token.isNumber() || facts.contains(token.text) || isHere("not") || isHere("(");
        if (!fit) {
            throw new Fault(1, token.place);
        }
        if (depth == 5) {
            throw new Fault(5, token.place);
        }
        at++;
        if (token.text.equals("not")) {
            return Tree.of("not", readPart(facts, depth + 1));
        }
        if (token.text.equals("(")) {
            Tree inner = readE(facts, depth + 1);
            need(")");
            return inner;
        }
        return Tree.of(token.text);
    }

    private Tree readSaying() {
        Tree formula = readFormula(0);
        need(";");
        if (at != tokens.size() - 1) {
            throw new Fault(1, here().place);
        }
        return formula;
    }

    private Tree readFormula(int depth) {
        Tree all = readTerm(depth);
        while (takes("or")) {
            all = Tree.of("or", all, readTerm(depth));
        }
        return all;
    }

    private Tree readTerm(int depth) {
        Tree all = readItem(depth);
        while (takes("and")) {
            all = Tree.of("and", all, readItem(depth));
        }
        return all;
    }

    private Tree readItem(int depth) {
        Token token = here();
        if (!isHere("not") && !isHere("(")) {
            checkNounWord(token);
        }
        if (depth == 5) {
            throw new Fault(5, token.place);
        }
        if (takes("not")) {
            return Tree.of("not", readItem(depth + 1));
        }
        if (takes("(")) {
            Tree inner = readFormula(depth + 1);
            need(")");
            return inner;
        }
        Tree first = readNoun();
        return Tree.of("clause", first, readNoun());
    }

    private void checkNounWord(Token token) {
        if (!token.isName()) {
            throw new Fault(1, token.place);
        }
        if (!land.things.contains(token.text) && !land.bends.contains(token.text)) {
            throw new Fault(2, token.place);
        }
    }

    /** A NOUN: its THING at the bottom, the BENDS round it. */
    private Tree readNoun() {
        List<String> bends = new ArrayList<>();
        while (true) {
            Token token = here();
            checkNounWord(token);
            if (land.things.contains(token.text)) {
                at++;
                Tree noun = Tree.of(token.text);
                for (int i = bends.size() - 1; i >= 0; i--) {
                    noun = Tree.of(bends.get(i), noun);
                }
                return noun;
            }
            if (bends.size() == 2) {
                throw new Fault(5, token.place);
            }
            bends.add(token.text);
            at++;
        }
    }

    // ---- meaning

    private int worldMany() {
        int many = 1;
        for (int i = 0; i < land.things.size(); i++) {
            many *= land.places;
        }
        return many;
    }

    private int placeIn(int world, int thing) {
        String digits = Integer.toString(world, land.places);
        int index = digits.length() - (land.things.size() - thing);
        return index < 0 ? 0 : digits.charAt(index) - '0';
    }

    private static int reckon(Tree e, Map<String, Integer> facts) {
        if (facts.containsKey(e.text)) {
            return facts.get(e.text);
        }
        if (e.parts.isEmpty()) {
            return Integer.parseInt(e.text);
        }
        int a = reckon(e.parts.get(0), facts);
        if (e.text.equals("not")) {
            return a == 0 ? 1 : 0;
        }
        int b = reckon(e.parts.get(1), facts);
        return switch (e.text) {
            case "and" -> a != 0 && b != 0 ? 1 : 0;
            case "or" -> a != 0 || b != 0 ? 1 : 0;
            case "<" -> a < b ? 1 : 0;
            case "=" -> a == b ? 1 : 0;
            case "+" -> a + b;
            case "-" -> a - b;
            default -> a * b;
        };
    }

    private static Tree thingOf(Tree noun) {
        return noun.parts.isEmpty() ? noun : thingOf(noun.parts.get(0));
    }

    private int weightOf(Tree noun) {
        return land.weights.get(land.things.indexOf(thingOf(noun).text));
    }

    private int placeOf(Tree noun, int world) {
        if (noun.parts.isEmpty()) {
            return placeIn(world, land.things.indexOf(noun.text));
        }
        Map<String, Integer> facts = Map.of("place", placeOf(noun.parts.get(0), world), "weight", weightOf(noun));
        return Math.floorMod(reckon(land.bendLaws.get(land.bends.indexOf(noun.text)), facts), land.places);
    }

    private boolean isSo(Tree formula, int verb, int world) {
        List<Tree> parts = formula.parts;
        switch (formula.text) {
            case "not":
                return !isSo(parts.get(0), verb, world);
            case "and":
                return isSo(parts.get(0), verb, world) && isSo(parts.get(1), verb, world);
            case "or":
                return isSo(parts.get(0), verb, world) || isSo(parts.get(1), verb, world);
            default:
                if (verb < 0) {
                    return false;
                }
                Tree first = parts.get(0);
                Tree second = parts.get(1);
                int alike = thingOf(first).text.equals(thingOf(second).text) ? 1 : 0;
                Map<String, Integer> facts = Map.of("first", placeOf(first, world), "second",
                    placeOf(second, world), "light", weightOf(first), "heavy", weightOf(second), "alike", alike);
                return reckon(land.verbLaws.get(verb), facts) != 0;
        }
    }

    private boolean[] means(Tree formula, int verb) {
        boolean[] all = new boolean[worldMany()];
        for (int i = 0; i < all.length; i++) {
            all[i] = isSo(formula, verb, i);
        }
        return all;
    }

    private static int sizeOf(boolean[] set) {
        int size = 0;
        for (boolean b : set) {
            size += b ? 1 : 0;
        }
        return size;
    }

    private int verbOf(int day) {
        if (!land.week.isEmpty()) {
            return land.verbs.indexOf(land.week.get(day % land.week.size()));
        }
        return land.verbs.isEmpty() ? -1 : day % land.verbs.size();
    }

    private boolean[] boundBy(Said said) {
        boolean[] all = means(said.formula, verbOf(said.day));
        if (verbOf(said.day) < 0) {
            Arrays.fill(all, true);
        }
        return all;
    }

    private static void keep(boolean[] set, boolean[] other) {
        for (int i = 0; i < set.length; i++) {
            set[i] &= other[i];
        }
    }

    private boolean[] leftBy(int day, List<Said> said) {
        boolean[] all = new boolean[worldMany()];
        Arrays.fill(all, true);
        for (Said s : said) {
            keep(all, boundBy(s));
        }
        for (Said s : now.orders) {
            if (s.day <= day) {
                keep(all, boundBy(s));
            }
        }
        return all;
    }

    private boolean[] leftNow() {
        return leftBy(now.day, now.said);
    }

    private Tree nounOf(int number) {
        int thing = number / 4;
        int bend = number % 4 - 1;
        if (thing >= land.things.size() || bend >= land.bends.size()) {
            return null;
        }
        Tree noun = Tree.of(land.things.get(thing));
        return bend < 0 ? noun : Tree.of(land.bends.get(bend), noun);
    }

    private Tree clauseOf(int number) {
        if (number < 0 || number >= 400 || nounOf(number / 20) == null || nounOf(number % 20) == null) {
            return null;
        }
        return Tree.of("clause", nounOf(number / 20), nounOf(number % 20));
    }

    private record Literal(int number, int words, boolean[] set) { }

    private final Map<Integer, List<Literal>> literalsKept = new HashMap<>();

    private List<Literal> literals(int verb) {
        return literalsKept.computeIfAbsent(verb, this::findLiterals);
    }

    private List<Literal> findLiterals(int verb) {
        List<Literal> all = new ArrayList<>();
        for (int number = 0; number < 800; number++) {
            Tree clause = clauseOf(number / 2);
            if (clause != null) {
                int words = number % 2;
                for (Tree noun : clause.parts) {
                    words += noun.parts.isEmpty() ? 1 : 2;
                }
                all.add(new Literal(number, words, means(number % 2 == 1 ? Tree.of("not", clause) : clause, verb)));
            }
        }
        return all;
    }

    private static boolean[] joined(boolean[] a, boolean[] b, boolean both) {
        boolean[] all = new boolean[a.length];
        for (int i = 0; i < a.length; i++) {
            all[i] = both ? a[i] && b[i] : a[i] || b[i];
        }
        return all;
    }

    // ---- the face

    int feed(long a, long b, long c) {
        for (long bytes : new long[] {a, b, c}) {
            for (int i = 7; i >= 0; i--) {
                char sign = (char) (bytes >>> 8 * i & 255);
                if ((sign == 10 || sign >= 32 && sign <= 126) && tape.length() < 1000) {
                    tape += sign;
                }
            }
        }
        return tape.length();
    }

    int land() {
        openTape();
        try {
            land = readLand();
        } catch (Fault fault) {
            return fault.number;
        }
        now = new State(0, List.of(), List.of(), null, List.of());
        deeds.clear();
        literalsKept.clear();
        Arrays.fill(marks, null);
        return 0;
    }

    private void changed(List<Said> said, List<Said> orders) {
        deeds.add(new Deed(now.said, now.orders));
        if (deeds.size() > 12) {
            deeds.remove(0);
        }
        now = new State(now.day, said, orders, now.asked, now.seen);
    }

    private static List<Said> with(List<Said> list, Said said) {
        List<Said> all = new ArrayList<>(list);
        all.add(said);
        return all;
    }

    int say() {
        openTape();
        try {
            Tree formula = readSaying();
            if (verbOf(now.day) < 0) {
                return -2;
            }
            if (now.said.size() == 12) {
                return -3;
            }
            changed(with(now.said, new Said(formula, now.day, now.day)), now.orders);
            return 0;
        } catch (Fault fault) {
            return fault.number;
        }
    }

    int order(int days) {
        openTape();
        try {
            Tree formula = readSaying();
            if (days < 1 || days > 99) {
                return -2;
            }
            if (now.orders.size() == 4) {
                return -3;
            }
            changed(now.said, with(now.orders, new Said(formula, now.day, now.day + days)));
            return 0;
        } catch (Fault fault) {
            return fault.number;
        }
    }

    int ask() {
        openTape();
        try {
            now = new State(now.day, now.said, now.orders, readSaying(), now.seen);
            return 0;
        } catch (Fault fault) {
            return fault.number;
        }
    }

    boolean unsay(int saying) {
        if (saying < 0 || saying >= now.said.size()) {
            return false;
        }
        List<Said> all = new ArrayList<>(now.said);
        all.remove(saying);
        changed(all, now.orders);
        return true;
    }

    boolean undo() {
        if (deeds.isEmpty()) {
            return false;
        }
        Deed last = deeds.remove(deeds.size() - 1);
        now = new State(now.day, last.said, last.orders, now.asked, now.seen);
        return true;
    }

    int dawn(int many) {
        if (many < 1 || many > 1000) {
            return -1;
        }
        deeds.clear();
        now = new State(now.day + many, now.said, now.orders, now.asked, now.seen);
        return now.day;
    }

    int thing(int thing) {
        return thing >= 0 && thing < land.things.size() ? land.weights.get(thing) : -1;
    }

    int verb(int day) {
        return day < 0 ? -1 : verbOf(day);
    }

    int saying(int saying, int what) {
        if (saying < 0 || saying >= now.said.size() || what < 0 || what > 1) {
            return -1;
        }
        Said said = now.said.get(saying);
        return what == 0 ? said.day : sizeOf(boundBy(said));
    }

    int ordered(int order, int what) {
        if (order < 0 || order >= now.orders.size() || what < 0 || what > 3) {
            return -1;
        }
        Said said = now.orders.get(order);
        boolean[] binds = boundBy(said);
        int loopholes = 0;
        int least = -1;
        for (int i = worldMany() - 1; i >= 0; i--) {
            if (binds[i] && !isSo(said.formula, verbOf(said.toldOn), i)) {
                loopholes++;
                least = i;
            }
        }
        return new int[] {said.day, sizeOf(binds), loopholes, least}[what];
    }

    int worlds(int what) {
        return what == 0 ? worldMany() : what == 1 ? sizeOf(leftNow()) : -1;
    }

    int left(int world) {
        return world < 0 || world >= worldMany() ? -1 : leftNow()[world] ? 1 : 0;
    }

    int holds(int clause, int day, int world) {
        if (clauseOf(clause) == null || day < 0 || world < 0 || world >= worldMany()) {
            return -1;
        }
        return isSo(clauseOf(clause), verbOf(day), world) ? 1 : 0;
    }

    int meant(int day) {
        return day < 0 || now.asked == null ? -1 : sizeOf(means(now.asked, verbOf(day)));
    }

    int same(int one, int other) {
        if (one < 0 || other < 0 || now.asked == null) {
            return -1;
        }
        return Arrays.equals(means(now.asked, verbOf(one)), means(now.asked, verbOf(other))) ? 1 : 0;
    }

    int asked() {
        return now.asked == null ? -1 : sizeOf(joined(leftNow(), means(now.asked, verbOf(now.day)), true));
    }

    int sure(int thing, int place) {
        if (thing < 0 || thing >= land.things.size() || place < 0 || place >= land.places) {
            return -1;
        }
        boolean in = false;
        boolean out = false;
        boolean[] left = leftNow();
        for (int i = 0; i < left.length; i++) {
            in |= left[i] && placeIn(i, thing) == place;
            out |= left[i] && placeIn(i, thing) != place;
        }
        return in && out ? 2 : in ? 1 : out ? 0 : -1;
    }

    int clash() {
        if (sizeOf(leftNow()) > 0) {
            return -1;
        }
        int best = -1;
        for (int set = 0; set < 1 << now.said.size(); set++) {
            List<Said> some = new ArrayList<>();
            for (int i = 0; i < now.said.size(); i++) {
                if ((set >> i & 1) == 1) {
                    some.add(now.said.get(i));
                }
            }
            boolean fewer = best < 0 || some.size() < Integer.bitCount(best);
            if (fewer && sizeOf(leftBy(now.day, some)) == 0) {
                best = set;
            }
        }
        return best;
    }

    int shortest(int day, int what) {
        if (day < 0 || what < 0 || what > 3 || now.asked == null || verbOf(now.day) < 0) {
            return -1;
        }
        boolean[] target = means(now.asked, verbOf(day));
        List<Literal> all = literals(verbOf(now.day));
        List<int[]> ways = new ArrayList<>();
        for (Literal a : all) {
            if (Arrays.equals(a.set, target)) {
                ways.add(new int[] {a.words, 0, a.number, -1});
            }
            for (Literal b : all) {
                for (int by = 1; a.number < b.number && by <= 2; by++) {
                    if (Arrays.equals(joined(a.set, b.set, by == 1), target)) {
                        ways.add(new int[] {a.words + b.words + 1, by, a.number, b.number});
                    }
                }
            }
        }
        return ways.stream().min(Comparator.<int[]>comparingInt(w -> w[0]).thenComparingInt(w -> w[1])
            .thenComparingInt(w -> w[2]).thenComparingInt(w -> w[3])).map(w -> w[what]).orElse(-1);
    }

    int two(int day, int what) {
        if (day < 0 || what < 0 || what > 2 || now.asked == null || verbOf(now.day) < 0) {
            return -1;
        }
        boolean[] target = means(now.asked, verbOf(day));
        List<Literal> firsts = literals(verbOf(now.day));
        for (int ahead = 1; ahead <= 6; ahead++) {
            if (verbOf(now.day + ahead) >= 0) {
                List<Literal> seconds = literals(verbOf(now.day + ahead));
                for (Literal a : firsts) {
                    for (Literal b : seconds) {
                        if (Arrays.equals(joined(a.set, b.set, true), target)) {
                            return new int[] {ahead, a.number, b.number}[what];
                        }
                    }
                }
            }
        }
        return -1;
    }

    int riddle(int ahead) {
        if (ahead < 0 || ahead > 6 || now.asked == null || verbOf(now.day + ahead) < 0) {
            return -1;
        }
        boolean[] target = means(now.asked, verbOf(now.day));
        for (int number = 0; number < 400; number++) {
            Tree clause = clauseOf(number);
            boolean fit = clause != null;
            for (int i = 0; fit && i <= 6; i++) {
                int verb = verbOf(now.day + i);
                boolean meansIt = verb >= 0 && Arrays.equals(means(clause, verb), target);
                fit = meansIt == (i == ahead);
            }
            if (fit) {
                return number;
            }
        }
        return -1;
    }

    private int[] choices(int digits) {
        int[] all = new int[land.speakers.size()];
        int rest = digits;
        for (int i = 0; i < all.length; i++) {
            all[i] = rest % 8;
            rest /= 8;
        }
        boolean fit = digits >= 0 && rest == 0;
        for (int choice : all) {
            fit &= choice <= land.verbs.size();
        }
        return fit ? all : null;
    }

    private int rung(int[] choices) {
        int best = -1;
        long most = 0;
        for (int v = 0; v < land.verbs.size(); v++) {
            int choice = v + 1;
            long many = Arrays.stream(choices).filter(c -> c == choice).count();
            if (many > most) {
                most = many;
                best = v;
            }
        }
        return most == 0 ? verbOf(now.day + 1) : best;
    }

    int rings(int digits) {
        if (choices(digits) == null) {
            throw new NoSuchElementException();
        }
        return rung(choices(digits));
    }

    private int has(int speaker, int[] choices) {
        int verb = rung(choices);
        int worth = verb < 0 ? 0 : land.speakers.get(speaker).wants.getOrDefault(land.verbs.get(verb), 0);
        return worth - (choices[speaker] > 0 ? land.bribe : 0);
    }

    private boolean rest(int[] choices) {
        for (int s = 0; s < choices.length; s++) {
            for (int other = 0; other <= land.verbs.size(); other++) {
                int[] changed = choices.clone();
                changed[s] = other;
                if (has(s, changed) > has(s, choices)) {
                    return false;
                }
            }
        }
        return true;
    }

    int rests(int what) {
        if (land.speakers.isEmpty()) {
            return -1;
        }
        List<Integer> all = new ArrayList<>();
        for (int digits = 0; digits < 512; digits++) {
            if (choices(digits) != null && rest(choices(digits))) {
                all.add(digits);
            }
        }
        return what == -1 ? all.size() : what >= 0 && what < all.size() ? all.get(what) : -1;
    }

    int sayable(int thing, int place) {
        if (thing < 0 || thing >= land.things.size() || place < 0 || place >= land.places) {
            return -1;
        }
        boolean[] target = new boolean[worldMany()];
        for (int i = 0; i < target.length; i++) {
            target[i] = placeIn(i, thing) == place;
        }
        int by = 0;
        for (int v = 0; v < land.verbs.size(); v++) {
            for (Literal literal : literals(v)) {
                by |= Arrays.equals(literal.set, target) ? 1 << v : 0;
            }
        }
        return by;
    }

    int cover(int what) {
        if (what < 0 || what > 1) {
            return -1;
        }
        List<Integer> all = new ArrayList<>();
        for (int t = 0; t < land.things.size(); t++) {
            for (int p = 0; p < land.places; p++) {
                all.add(sayable(t, p));
            }
        }
        int best = -1;
        for (int set = 0; set < 64; set++) {
            int verbs = set;
            if (all.stream().allMatch(by -> by == 0 || (by & verbs) != 0)
                    && (best < 0 || Integer.bitCount(set) < Integer.bitCount(best))) {
                best = set;
            }
        }
        return what == 0 ? Integer.bitCount(best) : best;
    }

    boolean see(int clause, int world, boolean holds) {
        if (clauseOf(clause) == null || world < 0 || world >= worldMany() || now.seen.size() == 20) {
            return false;
        }
        List<Seen> all = new ArrayList<>(now.seen);
        all.add(new Seen(clause, world, holds));
        now = new State(now.day, now.said, now.orders, now.asked, all);
        return true;
    }

    int knows() {
        int known = 0;
        for (int v = 0; v < land.verbs.size(); v++) {
            int verb = v;
            if (now.seen.stream().allMatch(s -> isSo(clauseOf(s.clause), verb, s.world) == s.holds)) {
                known |= 1 << v;
            }
        }
        return known;
    }

    int tells(int world) {
        if (world < 0 || world >= worldMany()) {
            return -1;
        }
        int known = knows();
        int best = -1;
        int most = 0;
        for (int number = 0; number < 400; number++) {
            int yes = 0;
            int no = 0;
            for (int v = 0; clauseOf(number) != null && v < 6; v++) {
                if ((known >> v & 1) == 1) {
                    boolean so = isSo(clauseOf(number), v, world);
                    yes += so ? 1 : 0;
                    no += so ? 0 : 1;
                }
            }
            if (Math.min(yes, no) > most) {
                most = Math.min(yes, no);
                best = number;
            }
        }
        return best;
    }

    private long seedNow;

    private int draw(int below) {
        seedNow = (seedNow * 1103515245L + 12345L) % 2147483648L;
        return (int) (seedNow / 65536 % below);
    }

    int year(int seed, int days, int what) {
        boolean fit = seed >= 0 && seed <= 9999 && days >= 1 && days <= 60 && what >= 0 && what <= 2;
        if (!fit || land.verbs.isEmpty() || land.things.isEmpty()) {
            return -1;
        }
        seedNow = seed;
        int told = 0;
        int silent = 0;
        boolean[] left = leftNow();
        for (int day = now.day; day < now.day + days; day++) {
            int lot = draw(10);
            int verb = lot == 0 ? -1 : lot == 1 ? draw(land.verbs.size()) : verbOf(day);
            if (verb < 0) {
                silent++;
            } else {
                Tree first = Tree.of(land.things.get(draw(land.things.size())));
                Tree second = Tree.of(land.things.get(draw(land.things.size())));
                boolean[] both = joined(left, means(Tree.of("clause", first, second), verb), true);
                if (sizeOf(both) > 0) {
                    told++;
                    left = both;
                }
            }
            for (Said order : now.orders) {
                if (order.day == day + 1) {
                    keep(left, boundBy(order));
                }
            }
        }
        return new int[] {told, silent, sizeOf(left)}[what];
    }

    boolean mark(int mark, boolean back) {
        if (mark < 0 || mark > 3 || back && marks[mark] == null) {
            return false;
        }
        if (back) {
            now = marks[mark];
            deeds.clear();
        } else {
            marks[mark] = now;
        }
        return true;
    }

    int count(int what) {
        int[] all = {land.places, land.things.size(), land.bends.size(), land.verbs.size(), land.speakers.size(),
            land.week.size(), now.day, now.said.size(), now.orders.size(), now.asked == null ? 0 : 1,
            now.seen.size(), deeds.size(), land.bribe, tape.length()};
        return what >= 0 && what < all.length ? all[what] : -1;
    }
}
