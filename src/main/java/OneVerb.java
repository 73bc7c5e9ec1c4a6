import java.util.Arrays;
import java.util.NoSuchElementException;

/** A land with a single verb each day: ../shared/DOC.md says what each call promises. */
public final class OneVerb {
    public static final int NONE = -1;

    private static final int MOST_SIGNS = 1000;
    private static final int MOST_PLACES = 4;
    private static final int MOST_THINGS = 5;
    private static final int MOST_BENDS = 3;
    private static final int MOST_VERBS = 6;
    private static final int MOST_SPEAKERS = 3;
    private static final int MOST_WEEK_DAYS = 7;
    private static final int MOST_SAID = 12;
    private static final int MOST_ORDERS = 4;
    private static final int MOST_SEEN = 20;
    private static final int MOST_DEEDS = 12;
    private static final int MARKS = 4;
    private static final int DEEPEST = 5;
    private static final int DAYS_AHEAD = 6;

    private static final int NOUNS = MOST_THINGS * (MOST_BENDS + 1);
    private static final int CLAUSES = NOUNS * NOUNS;
    private static final int LITERALS = CLAUSES * 2;

    /** Four PLACES for each of five THINGS make 1,024 WORLDS, a bit each. */
    private static final int LONGS = 16;

    private static final int THING = 0;
    private static final int BEND = 1;
    private static final int VERB = 2;
    private static final int SPEAKER = 3;
    private static final int KINDS = 4;
    private static final int SLOTS = 8;
    private static final int[] MOST_OF_KIND = {MOST_THINGS, MOST_BENDS, MOST_VERBS, MOST_SPEAKERS};

    private static final int MISPLACED = 1;
    private static final int UNKNOWN = 2;
    private static final int AGAIN = 3;
    private static final int UNFIT = 4;
    private static final int TOO_MANY = 5;

    /** In code, operators and facts lie below 0: what does not is a NUMBER or a CLAUSE. */
    private static final int FIRST_FACT = -1;
    private static final int LAST_FACT = -5;
    private static final int NOT = -11;
    private static final int AND = -12;
    private static final int OR = -13;
    private static final int LESS = -14;
    private static final int EQUAL = -15;
    private static final int PLUS = -16;
    private static final int MINUS = -17;
    private static final int TIMES = -18;
    private static final int NO_OPERATOR = 0;

    private final char[] tape = new char[MOST_SIGNS];
    private int signs;
    private final Land land = new Land();
    private final Land draft = new Land();
    private final LandReader landReader = new LandReader(tape, draft);
    private final SayingReader sayingReader = new SayingReader(tape, land);
    private final Meaning meaning = new Meaning(land);
    private final Finder finder = new Finder(land);
    private final Bell bell = new Bell(land);
    private final Book book = new Book();
    private final Book[] marks = new Book[MARKS];
    private final boolean[] laid = new boolean[MARKS];
    private final WorldSet worldsLeft = new WorldSet();
    private final WorldSet meantOnce = new WorldSet();
    private final WorldSet meantAgain = new WorldSet();
    private long drawn;

    public OneVerb() {
        for (int i = 0; i < MARKS; i++) {
            marks[i] = new Book();
        }
    }

    public int feed(long a, long b, long c) {
        feedBytes(a);
        feedBytes(b);
        feedBytes(c);
        return signs;
    }

    public int land() {
        int fault = landReader.read(takeTape());
        if (fault != 0) {
            return fault;
        }
        land.copyFrom(draft);
        book.forget();
        for (int i = 0; i < MARKS; i++) {
            laid[i] = false;
        }
        return 0;
    }

    public int say() {
        int fault = sayingReader.read(takeTape());
        if (fault != 0) {
            return fault;
        }
        if (verbToday() == NONE) {
            return -2;
        }
        if (book.saidMany >= MOST_SAID) {
            return -3;
        }
        book.tell(sayingFor(book.day));
        return 0;
    }

    public int order(int days) {
        int fault = sayingReader.read(takeTape());
        if (fault != 0) {
            return fault;
        }
        if (days < 1 || days > 99) {
            return -2;
        }
        if (book.orderMany >= MOST_ORDERS) {
            return -3;
        }
        book.keepOrder(sayingFor(book.day + days));
        return 0;
    }

    public int ask() {
        int fault = sayingReader.read(takeTape());
        if (fault != 0) {
            return fault;
        }
        book.asked = sayingReader.formula();
        return 0;
    }

    public boolean unsay(int saying) {
        return book.takeBack(saying);
    }

    public boolean undo() {
        return book.undoLast();
    }

    public int dawn(int many) {
        if (many < 1 || many > 1000) {
            return NONE;
        }
        book.passDays(many);
        return book.day;
    }

    public int thing(int thing) {
        return land.isThing(thing) ? land.weights[thing] : NONE;
    }

    public int verb(int day) {
        return land.verbOf(day);
    }

    public int saying(int saying, int what) {
        Saying told = book.saidAt(saying);
        if (told == null) {
            return NONE;
        }
        switch (what) {
            case 0:
                return told.day;
            case 1:
                return told.bound.size();
            default:
                return NONE;
        }
    }

    public int ordered(int order, int what) {
        Saying kept = book.orderAt(order);
        if (kept == null) {
            return NONE;
        }
        switch (what) {
            case 0:
                return kept.day;
            case 1:
                return kept.bound.size();
            case 2:
                findLoopholes(kept);
                return meantOnce.size();
            case 3:
                findLoopholes(kept);
                return meantOnce.least();
            default:
                return NONE;
        }
    }

    public int worlds(int what) {
        switch (what) {
            case 0:
                return land.worldMany;
            case 1:
                findLeft();
                return worldsLeft.size();
            default:
                return NONE;
        }
    }

    public int left(int world) {
        if (!land.isWorld(world)) {
            return NONE;
        }
        findLeft();
        return worldsLeft.has(world) ? 1 : 0;
    }

    public int holds(int clause, int day, int world) {
        if (!land.isClause(clause) || day < 0 || !land.isWorld(world)) {
            return NONE;
        }
        return land.clauseHolds(clause, land.verbOf(day), world) ? 1 : 0;
    }

    public int meant(int day) {
        if (day < 0 || !book.hasAsked()) {
            return NONE;
        }
        meaning.find(book.asked, land.verbOf(day), meantOnce);
        return meantOnce.size();
    }

    public int same(int one, int other) {
        if (one < 0 || other < 0 || !book.hasAsked()) {
            return NONE;
        }
        meaning.find(book.asked, land.verbOf(one), meantOnce);
        meaning.find(book.asked, land.verbOf(other), meantAgain);
        return meantOnce.isLike(meantAgain) ? 1 : 0;
    }

    public int asked() {
        if (!book.hasAsked()) {
            return NONE;
        }
        findLeft();
        meaning.find(book.asked, verbToday(), meantOnce);
        meantOnce.keep(worldsLeft);
        return meantOnce.size();
    }

    public int sure(int thing, int place) {
        if (!land.isThing(thing) || !land.isPlace(place)) {
            return NONE;
        }
        findLeft();
        if (worldsLeft.isEmpty()) {
            return NONE;
        }
        land.spot(thing, place, meantOnce);
        meantOnce.keep(worldsLeft);
        if (meantOnce.isEmpty()) {
            return 0;
        }
        return meantOnce.isLike(worldsLeft) ? 1 : 2;
    }

    public int clash() {
        findLeft();
        if (!worldsLeft.isEmpty()) {
            return NONE;
        }
        findOrdersLeave();
        int best = 0;
        int fewest = MOST_SAID + 1;
        for (int set = 0; set < 1 << book.saidMany; set++) {
            int many = Integer.bitCount(set);
            if (many < fewest && book.leavesNothing(worldsLeft, set)) {
                fewest = many;
                best = set;
            }
        }
        return best;
    }

    public int shortest(int day, int what) {
        int today = verbToday();
        if (day < 0 || what < 0 || what > 3 || !book.hasAsked() || today == NONE) {
            return NONE;
        }
        meaning.find(book.asked, land.verbOf(day), meantOnce);
        if (!finder.findShortest(meantOnce, today)) {
            return NONE;
        }
        switch (what) {
            case 0:
                return finder.words;
            case 1:
                return finder.joint;
            case 2:
                return finder.first;
            default:
                return finder.second;
        }
    }

    public int two(int day, int what) {
        if (day < 0 || what < 0 || what > 2 || !book.hasAsked() || verbToday() == NONE) {
            return NONE;
        }
        meaning.find(book.asked, land.verbOf(day), meantOnce);
        int ahead = finder.findTwoDays(meantOnce, book.day);
        if (ahead == NONE) {
            return NONE;
        }
        switch (what) {
            case 0:
                return ahead;
            case 1:
                return finder.first;
            default:
                return finder.second;
        }
    }

    public int riddle(int ahead) {
        if (ahead < 0 || ahead > DAYS_AHEAD || !book.hasAsked()) {
            return NONE;
        }
        meaning.find(book.asked, verbToday(), meantOnce);
        return finder.findRiddle(meantOnce, book.day, ahead);
    }

    public int rings(int digits) throws NoSuchElementException {
        if (!bell.areChoices(digits)) {
            throw new NoSuchElementException("no such choices of the speakers");
        }
        return bell.verbRung(digits, land.verbOf(book.day + 1));
    }

    public int rests(int what) {
        if (what < NONE || land.many[SPEAKER] == 0) {
            return NONE;
        }
        return bell.findRest(what, land.verbOf(book.day + 1));
    }

    public int sayable(int thing, int place) {
        if (!land.isThing(thing) || !land.isPlace(place)) {
            return NONE;
        }
        finder.findSayable();
        return finder.sayableBy[thing * MOST_PLACES + place];
    }

    public int cover(int what) {
        if (what < 0 || what > 1) {
            return NONE;
        }
        finder.findSayable();
        int best = 0;
        int fewest = MOST_VERBS + 1;
        for (int set = 0; set < 1 << land.many[VERB]; set++) {
            int many = Integer.bitCount(set);
            if (many < fewest && finder.saysAll(set)) {
                fewest = many;
                best = set;
            }
        }
        return what == 0 ? Integer.bitCount(best) : best;
    }

    public boolean see(int clause, int world, boolean holds) {
        if (!land.isClause(clause) || !land.isWorld(world)) {
            return false;
        }
        return book.noteSeen(clause, world, holds);
    }

    public int knows() {
        int known = 0;
        for (int verb = 0; verb < land.many[VERB]; verb++) {
            if (fitsSeen(verb)) {
                known |= 1 << verb;
            }
        }
        return known;
    }

    public int tells(int world) {
        if (!land.isWorld(world)) {
            return NONE;
        }
        int known = knows();
        int best = NONE;
        int most = 0;
        for (int clause = 0; clause < CLAUSES; clause++) {
            if (land.isClause(clause)) {
                int evenness = evennessOf(clause, world, known);
                if (evenness > most) {
                    most = evenness;
                    best = clause;
                }
            }
        }
        return best;
    }

    public int year(int seed, int days, int what) {
        boolean fit = seed >= 0 && seed <= 9999 && days >= 1 && days <= 60 && what >= 0 && what <= 2;
        if (!fit || land.many[VERB] == 0 || land.many[THING] == 0) {
            return NONE;
        }
        drawn = seed;
        findLeft();
        int told = 0;
        int silent = 0;
        for (int i = 0; i < days; i++) {
            int verb = drawVerb(book.day + i);
            if (verb == NONE) {
                silent++;
            } else if (drawClause(verb)) {
                told++;
            }
            book.keepOrdersOf(book.day + i + 1, worldsLeft);
        }
        switch (what) {
            case 0:
                return told;
            case 1:
                return silent;
            default:
                return worldsLeft.size();
        }
    }

    public boolean mark(int mark, boolean back) {
        if (mark < 0 || mark >= MARKS || (back && !laid[mark])) {
            return false;
        }
        if (back) {
            book.copyFrom(marks[mark]);
        } else {
            marks[mark].copyFrom(book);
            laid[mark] = true;
        }
        return true;
    }

    public int count(int what) {
        switch (what) {
            case 0:
                return land.places;
            case 1:
                return land.many[THING];
            case 2:
                return land.many[BEND];
            case 3:
                return land.many[VERB];
            case 4:
                return land.many[SPEAKER];
            case 5:
                return land.weekDays;
            case 6:
                return book.day;
            case 7:
                return book.saidMany;
            case 8:
                return book.orderMany;
            case 9:
                return book.hasAsked() ? 1 : 0;
            case 10:
                return book.seenMany;
            case 11:
                return book.deedMany;
            case 12:
                return land.bribe;
            case 13:
                return signs;
            default:
                return NONE;
        }
    }

    private void feedBytes(long bytes) {
        for (int shift = 56; shift >= 0; shift -= 8) {
            int sign = (int) (bytes >> shift & 255);
            boolean fit = sign == 10 || (sign >= 32 && sign <= 126);
            if (fit && signs < MOST_SIGNS) {
                tape[signs] = (char) sign;
                signs++;
            }
        }
    }

    /** The TAPE's length; the signs themselves stay where the readers find them. */
    private int takeTape() {
        int length = signs;
        signs = 0;
        return length;
    }

    private int verbToday() {
        return land.verbOf(book.day);
    }

    /** What was read last, as it binds from a DAY on: a SILENT DAY binds nothing. */
    private Saying sayingFor(int day) {
        Saying saying = new Saying(sayingReader.formula(), book.day, day);
        int verb = land.verbOf(day);
        if (verb == NONE) {
            saying.bound.fill(land.worldMany);
        } else {
            meaning.find(saying.formula, verb, saying.bound);
        }
        return saying;
    }

    private void findLeft() {
        findOrdersLeave();
        for (int i = 0; i < book.saidMany; i++) {
            Saying told = book.saidAt(i);
            if (told != null) {
                worldsLeft.keep(told.bound);
            }
        }
    }

    private void findOrdersLeave() {
        worldsLeft.fill(land.worldMany);
        for (int i = 0; i < book.orderMany; i++) {
            Saying kept = book.orderAt(i);
            if (kept != null && kept.day <= book.day) {
                worldsLeft.keep(kept.bound);
            }
        }
    }

    private void findLoopholes(Saying kept) {
        meaning.find(kept.formula, land.verbOf(kept.toldOn), meantAgain);
        meantOnce.take(kept.bound);
        meantOnce.drop(meantAgain);
    }

    private boolean fitsSeen(int verb) {
        for (int i = 0; i < book.seenMany; i++) {
            if (land.clauseHolds(book.seenClause(i), verb, book.seenWorld(i)) != book.seenTrue(i)) {
                return false;
            }
        }
        return true;
    }

    private int evennessOf(int clause, int world, int verbs) {
        int by = 0;
        for (int verb = 0; verb < land.many[VERB]; verb++) {
            if ((verbs >> verb & 1) != 0 && land.clauseHolds(clause, verb, world)) {
                by++;
            }
        }
        return Math.min(by, Integer.bitCount(verbs) - by);
    }

    private int drawBelow(int most) {
        drawn = (drawn * 1103515245L + 12345L) % 2147483648L;
        return most > 0 ? (int) (drawn / 65536L % most) : 0;
    }

    private int drawVerb(int day) {
        switch (drawBelow(10)) {
            case 0:
                return NONE;
            case 1:
                return drawBelow(land.many[VERB]);
            default:
                return land.verbOf(day);
        }
    }

    /** Draws a CLAUSE and tells it, if it leaves something: whether it was told. */
    private boolean drawClause(int verb) {
        int first = land.nounOf(drawBelow(land.many[THING]) * (MOST_BENDS + 1));
        int second = land.nounOf(drawBelow(land.many[THING]) * (MOST_BENDS + 1));
        land.spread(first, second, verb, meantOnce);
        meantOnce.keep(worldsLeft);
        if (meantOnce.isEmpty()) {
            return false;
        }
        worldsLeft.take(meantOnce);
        return true;
    }

    /** The words that the languages know: those that no NAME may be, and the facts of laws. */
    private enum Word {
        PLACES("places"), THING_LINE("thing"), WEIGH("weigh"), BEND_LINE("bend"), VERB_LINE("verb"), WEEK("week"),
        SILENT("silent"), SPEAKER_LINE("speaker"), WANTS("wants"), BRIBE("bribe"), NOT_SO("not"), BOTH("and"),
        EITHER("or"),
        FIRST("first", VERB, 0), SECOND("second", VERB, 1), LIGHT("light", VERB, 2), HEAVY("heavy", VERB, 3),
        ALIKE("alike", VERB, 4), PLACE("place", BEND, 0), WEIGHT("weight", BEND, 1);

        private static final Word[] ALL = values();

        final long letters;
        final boolean reserved;
        final int owner;
        final int fact;

        Word(String text) {
            letters = pack(text);
            reserved = true;
            owner = NONE;
            fact = NONE;
        }

        Word(String text, int owner, int fact) {
            letters = pack(text);
            reserved = false;
            this.owner = owner;
            this.fact = fact;
        }

        /** Eight letters fit in a long, so that no text need be made of a token. */
        static long packMore(long letters, char letter) {
            return letters * 27 + (letter - 'a' + 1);
        }

        static long pack(String text) {
            long letters = 0;
            for (int i = 0; i < text.length(); i++) {
                letters = packMore(letters, text.charAt(i));
            }
            return letters;
        }

        /** The word of these letters, or null. */
        static Word find(long letters) {
            for (int i = 0; i < ALL.length; i++) {
                if (ALL[i].letters == letters) {
                    return ALL[i];
                }
            }
            return null;
        }
    }

    /** Goes through the TAPE a token at a time and keeps the FAULT. */
    private abstract static class Tokens {
        static final int END = 0;
        static final int NO_TOKEN = 1;
        static final int WORD = 2;
        static final int NUMBER = 3;
        static final int SIGN = 4;

        final char[] text;
        int length;
        int start;
        int behind;
        int kind;
        int number;
        char sign;
        long letters;
        Word known;
        int fault;

        Tokens(char[] text) {
            this.text = text;
        }

        final void open(int newLength) {
            length = Math.min(newLength, text.length);
            behind = 0;
            fault = 0;
            advance();
        }

        final void advance() {
            skipBlanks();
            start = behind;
            known = null;
            if (start >= length) {
                kind = END;
            } else if (isLetter(text[start])) {
                scanWord();
            } else if (isDigit(text[start])) {
                scanNumber();
            } else {
                sign = text[start];
                kind = isSign(sign) ? SIGN : NO_TOKEN;
                behind = start + 1;
            }
        }

        private void skipBlanks() {
            while (behind < length && (text[behind] == 10 || text[behind] == 32)) {
                behind++;
            }
        }

        private void scanWord() {
            letters = 0;
            while (behind < length && isLetter(text[behind])) {
                letters = Word.packMore(letters, text[behind]);
                behind++;
            }
            kind = behind - start <= 8 ? WORD : NO_TOKEN;
            if (kind == WORD) {
                known = Word.find(letters);
            }
        }

        private void scanNumber() {
            number = 0;
            while (behind < length && isDigit(text[behind])) {
                number = number * 10 + (text[behind] - '0');
                behind++;
            }
            kind = behind - start <= 4 ? NUMBER : NO_TOKEN;
        }

        private static boolean isLetter(char c) {
            return c >= 'a' && c <= 'z';
        }

        private static boolean isDigit(char c) {
            return c >= '0' && c <= '9';
        }

        private static boolean isSign(char c) {
            return "()<=+-*;".indexOf(c) >= 0;
        }

        /** Always false, so that a reader can end with it. */
        final boolean fail(int faultKind) {
            fault = faultKind + 16 * start;
            return false;
        }

        final boolean isAt(Word word) {
            return kind == WORD && known == word;
        }

        final boolean isAt(char wanted) {
            return kind == SIGN && sign == wanted;
        }

        final boolean isAtName() {
            return kind == WORD && (known == null || !known.reserved);
        }

        final boolean pass(Word word) {
            if (!isAt(word)) {
                return fail(MISPLACED);
            }
            advance();
            return true;
        }

        final boolean pass(char wanted) {
            if (!isAt(wanted)) {
                return fail(MISPLACED);
            }
            advance();
            return true;
        }

        /** The NUMBER, or NONE at a FAULT. */
        final int passNumber(int least, int most) {
            if (kind != NUMBER) {
                fail(MISPLACED);
                return NONE;
            }
            int value = number;
            if (value < least || value > most) {
                fail(UNFIT);
                return NONE;
            }
            advance();
            return value;
        }
    }

    /** Reads the TAPE as a LAND into a draft, so that a FAULT leaves the LAND alone. */
    private static final class LandReader extends Tokens {
        private static final int JOINING = 0;
        private static final int COMPARING = 1;
        private static final int ADDING = 2;
        private static final int MULTIPLYING = 3;
        private static final int PARTS = 4;

        private final Land draft;
        private boolean bribeTold;

        LandReader(char[] text, Land draft) {
            super(text);
            this.draft = draft;
        }

        /** 0, or the FAULT. */
        int read(int newLength) {
            draft.empty();
            bribeTold = false;
            open(newLength);
            if (!readPlaces()) {
                return fault;
            }
            for (int i = 0; i < MOST_SIGNS && kind != END; i++) {
                if (!readLine()) {
                    return fault;
                }
            }
            return 0;
        }

        private boolean readPlaces() {
            if (!pass(Word.PLACES)) {
                return false;
            }
            int places = passNumber(2, MOST_PLACES);
            if (places == NONE) {
                return false;
            }
            draft.places = places;
            return pass(';');
        }

        private boolean readLine() {
            if (isAt(Word.THING_LINE)) {
                return readThing();
            }
            if (isAt(Word.BEND_LINE)) {
                return readLaw(BEND);
            }
            if (isAt(Word.VERB_LINE)) {
                return readLaw(VERB);
            }
            if (isAt(Word.WEEK)) {
                return readWeek();
            }
            if (isAt(Word.SPEAKER_LINE)) {
                return readSpeaker();
            }
            return isAt(Word.BRIBE) ? readBribe() : fail(MISPLACED);
        }

        private boolean readThing() {
            if (!readNamed(THING) || !pass(Word.WEIGH)) {
                return false;
            }
            int weight = passNumber(0, 99);
            if (weight == NONE) {
                return false;
            }
            draft.weighLast(weight);
            return pass(';');
        }

        private boolean readLaw(int kindOfName) {
            if (!readNamed(kindOfName)) {
                return false;
            }
            draft.openLaw(kindOfName);
            if (!readLevel(kindOfName, JOINING, 0)) {
                return false;
            }
            draft.closeLaw(kindOfName);
            return pass(';');
        }

        /** A line's first word and its new NAME. */
        private boolean readNamed(int kindOfName) {
            if (draft.many[kindOfName] >= MOST_OF_KIND[kindOfName]) {
                return fail(TOO_MANY);
            }
            advance();
            if (!isAtName()) {
                return fail(MISPLACED);
            }
            if (draft.isTold(letters)) {
                return fail(AGAIN);
            }
            draft.addName(kindOfName, letters);
            advance();
            return true;
        }

        private boolean readWeek() {
            if (draft.weekDays > 0) {
                return fail(AGAIN);
            }
            advance();
            for (int i = 0; i <= MOST_WEEK_DAYS; i++) {
                if (i > 0 && isAt(';')) {
                    break;
                }
                if (!readDay()) {
                    return false;
                }
            }
            return pass(';');
        }

        private boolean readDay() {
            int verb = NONE;
            if (!isAt(Word.SILENT)) {
                verb = verbHere();
                if (verb == NONE) {
                    return false;
                }
            }
            if (draft.weekDays >= MOST_WEEK_DAYS) {
                return fail(TOO_MANY);
            }
            draft.week[draft.weekDays] = verb;
            draft.weekDays++;
            advance();
            return true;
        }

        /** The VERB whose NAME stands here, or NONE at a FAULT. */
        private int verbHere() {
            if (!isAtName()) {
                fail(MISPLACED);
                return NONE;
            }
            int verb = draft.find(VERB, letters);
            if (verb == NONE) {
                fail(UNKNOWN);
            }
            return verb;
        }

        private boolean readSpeaker() {
            if (!readNamed(SPEAKER) || !pass(Word.WANTS)) {
                return false;
            }
            int wanted = 0;
            for (int i = 0; i <= MOST_VERBS; i++) {
                if (i > 0 && isAt(';')) {
                    break;
                }
                int verb = verbHere();
                if (verb == NONE) {
                    return false;
                }
                if ((wanted >> verb & 1) != 0) {
                    return fail(AGAIN);
                }
                wanted |= 1 << verb;
                advance();
                int worth = passNumber(0, 99);
                if (worth == NONE) {
                    return false;
                }
                draft.wantLast(verb, worth);
            }
            return pass(';');
        }

        private boolean readBribe() {
            if (bribeTold) {
                return fail(AGAIN);
            }
            bribeTold = true;
            advance();
            int bribe = passNumber(0, 99);
            if (bribe == NONE) {
                return false;
            }
            draft.bribe = bribe;
            return pass(';');
        }

        /** An E is its JOINING level: a level is a row of the next one's, joined by the level's operators. */
        private boolean readLevel(int owner, int level, int depth) {
            if (level >= PARTS) {
                return readPart(owner, depth);
            }
            if (!readLevel(owner, level + 1, depth)) {
                return false;
            }
            for (int i = 0; i < MOST_SIGNS; i++) {
                int operator = operatorOf(level);
                if (operator == NO_OPERATOR || (level == COMPARING && i > 0)) {
                    return true;
                }
                advance();
                if (!readLevel(owner, level + 1, depth)) {
                    return false;
                }
                draft.addCode(operator);
            }
            return true;
        }

        private int operatorOf(int level) {
            switch (level) {
                case JOINING:
                    return isAt(Word.BOTH) ? AND : isAt(Word.EITHER) ? OR : NO_OPERATOR;
                case COMPARING:
                    return isAt('<') ? LESS : isAt('=') ? EQUAL : NO_OPERATOR;
                case ADDING:
                    return isAt('+') ? PLUS : isAt('-') ? MINUS : NO_OPERATOR;
                case MULTIPLYING:
                    return isAt('*') ? TIMES : NO_OPERATOR;
                default:
                    return NO_OPERATOR;
            }
        }

        private boolean readPart(int owner, int depth) {
            boolean isFact = kind == WORD && known != null && known.owner == owner;
            if (kind != NUMBER && !isFact && !isAt(Word.NOT_SO) && !isAt('(')) {
                return fail(MISPLACED);
            }
            if (depth >= DEEPEST) {
                return fail(TOO_MANY);
            }
            if (isAt(Word.NOT_SO)) {
                advance();
                if (!readPart(owner, depth + 1)) {
                    return false;
                }
                draft.addCode(NOT);
                return true;
            }
            if (isAt('(')) {
                advance();
                return readLevel(owner, JOINING, depth + 1) && pass(')');
            }
            draft.addCode(isFact ? FIRST_FACT - known.fact : number);
            advance();
            return true;
        }
    }

    /** Reads the TAPE as a SAYING. */
    private static final class SayingReader extends Tokens {
        private final Land land;
        private final int[] code = new int[MOST_SIGNS];
        private int codeMany;

        SayingReader(char[] text, Land land) {
            super(text);
            this.land = land;
        }

        /** 0, or the FAULT. */
        int read(int newLength) {
            codeMany = 0;
            open(newLength);
            if (!readFormula(0) || !pass(';')) {
                return fault;
            }
            if (kind != END) {
                fail(MISPLACED);
            }
            return fault;
        }

        /** What was read last: CLAUSES and, behind what they join, operators. */
        int[] formula() {
            return Arrays.copyOf(code, codeMany);
        }

        private void add(int value) {
            if (codeMany < code.length) {
                code[codeMany] = value;
                codeMany++;
            }
        }

        private boolean readFormula(int depth) {
            if (!readTerm(depth)) {
                return false;
            }
            for (int i = 0; i < MOST_SIGNS && isAt(Word.EITHER); i++) {
                advance();
                if (!readTerm(depth)) {
                    return false;
                }
                add(OR);
            }
            return true;
        }

        private boolean readTerm(int depth) {
            if (!readItem(depth)) {
                return false;
            }
            for (int i = 0; i < MOST_SIGNS && isAt(Word.BOTH); i++) {
                advance();
                if (!readItem(depth)) {
                    return false;
                }
                add(AND);
            }
            return true;
        }

        private boolean readItem(int depth) {
            boolean joined = isAt(Word.NOT_SO) || isAt('(');
            if (!joined && !isAtName()) {
                return fail(MISPLACED);
            }
            if (!joined && land.find(THING, letters) == NONE && land.find(BEND, letters) == NONE) {
                return fail(UNKNOWN);
            }
            if (depth >= DEEPEST) {
                return fail(TOO_MANY);
            }
            if (isAt('(')) {
                advance();
                return readFormula(depth + 1) && pass(')');
            }
            if (isAt(Word.NOT_SO)) {
                advance();
                if (!readItem(depth + 1)) {
                    return false;
                }
                add(NOT);
                return true;
            }
            return readClause();
        }

        private boolean readClause() {
            int first = readNoun();
            if (first == NONE) {
                return false;
            }
            int second = readNoun();
            if (second == NONE) {
                return false;
            }
            add(land.joinNouns(first, second));
            return true;
        }

        /** The NOUN, or NONE at a FAULT. */
        private int readNoun() {
            int outer = NONE;
            int inner = NONE;
            for (int i = 0; i < 3; i++) {
                if (!isAtName()) {
                    fail(MISPLACED);
                    return NONE;
                }
                int thing = land.find(THING, letters);
                if (thing != NONE) {
                    advance();
                    return land.bendNoun(thing, inner, outer);
                }
                int bend = land.find(BEND, letters);
                if (bend == NONE || i == 2) {
                    fail(bend == NONE ? UNKNOWN : TOO_MANY);
                    return NONE;
                }
                outer = inner;
                inner = bend;
                advance();
            }
            return NONE;
        }
    }

    /** What a LAND tells, and what follows from it: where BENDS lead, where VERBS hold. */
    private static final class Land {
        /** Two bits for each PLACE that a THING may be at: where its NOUN is then. */
        private static final int STRAIGHT = 0 | 1 << 2 | 2 << 4 | 3 << 6;
        private static final int NOUN_BITS = 11;
        private static final int DIAGONAL = 1 | 1 << 5 | 1 << 10 | 1 << 15;
        private static final int STACK = 64;

        int places;
        int bribe;
        int weekDays;
        int worldMany;
        int longs;
        private int codeMany;
        final int[] many = new int[KINDS];
        final int[] weights = new int[MOST_THINGS];
        final int[] week = new int[MOST_WEEK_DAYS];
        final int[] worths = new int[MOST_SPEAKERS * MOST_VERBS];
        private final long[] names = new long[KINDS * SLOTS];
        private final int[] code = new int[MOST_SIGNS];
        private final int[] lawStarts = new int[KINDS * SLOTS];
        private final int[] lawEnds = new int[KINDS * SLOTS];
        private final int[] ways = new int[MOST_BENDS * MOST_THINGS];
        private final int[] laws = new int[MOST_VERBS * MOST_THINGS * MOST_THINGS];
        private final long[] spots = new long[MOST_THINGS * MOST_PLACES * LONGS];
        private final int[] facts = new int[5];
        private final int[] stack = new int[STACK];

        Land() {
            empty();
            settle();
        }

        void empty() {
            places = 2;
            bribe = 1;
            weekDays = 0;
            codeMany = 0;
            Arrays.fill(many, 0);
            Arrays.fill(worths, 0);
        }

        void copyFrom(Land told) {
            places = told.places;
            bribe = told.bribe;
            weekDays = told.weekDays;
            codeMany = told.codeMany;
            System.arraycopy(told.many, 0, many, 0, many.length);
            System.arraycopy(told.weights, 0, weights, 0, weights.length);
            System.arraycopy(told.week, 0, week, 0, week.length);
            System.arraycopy(told.worths, 0, worths, 0, worths.length);
            System.arraycopy(told.names, 0, names, 0, names.length);
            System.arraycopy(told.code, 0, code, 0, code.length);
            System.arraycopy(told.lawStarts, 0, lawStarts, 0, lawStarts.length);
            System.arraycopy(told.lawEnds, 0, lawEnds, 0, lawEnds.length);
            settle();
        }

        void addName(int kind, long letters) {
            if (many[kind] < SLOTS) {
                names[kind * SLOTS + many[kind]] = letters;
                many[kind]++;
            }
        }

        /** The number of a NAME among those of its kind, or NONE. */
        int find(int kind, long letters) {
            for (int i = 0; i < many[kind]; i++) {
                if (names[kind * SLOTS + i] == letters) {
                    return i;
                }
            }
            return NONE;
        }

        boolean isTold(long letters) {
            for (int kind = 0; kind < KINDS; kind++) {
                if (find(kind, letters) != NONE) {
                    return true;
                }
            }
            return false;
        }

        void weighLast(int weight) {
            int last = many[THING] - 1;
            if (last >= 0 && last < weights.length) {
                weights[last] = weight;
            }
        }

        void wantLast(int verb, int worth) {
            int last = many[SPEAKER] - 1;
            if (last >= 0 && last < MOST_SPEAKERS && verb >= 0 && verb < MOST_VERBS) {
                worths[last * MOST_VERBS + verb] = worth;
            }
        }

        void openLaw(int kind) {
            if (many[kind] > 0) {
                lawStarts[kind * SLOTS + many[kind] - 1] = codeMany;
            }
        }

        void closeLaw(int kind) {
            if (many[kind] > 0) {
                lawEnds[kind * SLOTS + many[kind] - 1] = codeMany;
            }
        }

        void addCode(int value) {
            if (codeMany < code.length) {
                code[codeMany] = value;
                codeMany++;
            }
        }

        boolean isThing(int thing) {
            return thing >= 0 && thing < many[THING];
        }

        boolean isPlace(int place) {
            return place >= 0 && place < places;
        }

        boolean isWorld(int world) {
            return world >= 0 && world < worldMany;
        }

        boolean isClause(int clause) {
            return clause >= 0 && clause < CLAUSES
                && nounOf(clause / NOUNS) != NONE && nounOf(clause % NOUNS) != NONE;
        }

        /** NONE if the DAY is SILENT, or is none. */
        int verbOf(int day) {
            if (day < 0) {
                return NONE;
            }
            if (weekDays > 0) {
                return week[day % weekDays];
            }
            return many[VERB] > 0 ? day % many[VERB] : NONE;
        }

        /** Worth of a VERB to a SPEAKER, 0 where there is nothing to want. */
        int worthOf(int speaker, int verb) {
            boolean fit = speaker >= 0 && speaker < MOST_SPEAKERS && verb >= 0 && verb < MOST_VERBS;
            return fit ? worths[speaker * MOST_VERBS + verb] : 0;
        }

        /** What follows once all is told: a law may speak of THINGS that are told behind it. */
        private void settle() {
            settleWorlds();
            for (int bend = 0; bend < many[BEND]; bend++) {
                for (int thing = 0; thing < many[THING]; thing++) {
                    ways[bend * MOST_THINGS + thing] = wayOf(bend, thing);
                }
            }
            for (int verb = 0; verb < many[VERB]; verb++) {
                settleLaws(verb);
            }
        }

        private void settleLaws(int verb) {
            for (int first = 0; first < many[THING]; first++) {
                for (int second = 0; second < many[THING]; second++) {
                    laws[lawIndex(verb, first, second)] = lawOf(verb, first, second);
                }
            }
        }

        private void settleWorlds() {
            worldMany = 1;
            for (int i = 0; i < many[THING]; i++) {
                worldMany *= places;
            }
            longs = (worldMany + 63) / 64;
            Arrays.fill(spots, 0L);
            for (int world = 0; world < worldMany; world++) {
                int digits = world;
                for (int thing = many[THING] - 1; thing >= 0; thing--) {
                    int place = places > 0 ? digits % places : 0;
                    digits = places > 0 ? digits / places : 0;
                    spots[spotIndex(thing, place, world / 64)] |= 1L << world % 64;
                }
            }
        }

        private static int spotIndex(int thing, int place, int i) {
            return (thing * MOST_PLACES + place) * LONGS + i;
        }

        private static int lawIndex(int verb, int first, int second) {
            return (verb * MOST_THINGS + first) * MOST_THINGS + second;
        }

        private int wayOf(int bend, int thing) {
            int way = 0;
            facts[1] = weights[thing];
            for (int place = 0; place < places; place++) {
                facts[0] = place;
                way |= Math.floorMod(reckon(BEND, bend), Math.max(places, 1)) << 2 * place;
            }
            return way;
        }

        /** A bit for each two PLACES, the first NOUN's times 4 and the second's: whether the VERB holds there. */
        private int lawOf(int verb, int first, int second) {
            int law = 0;
            facts[2] = weights[first];
            facts[3] = weights[second];
            facts[4] = first == second ? 1 : 0;
            for (int place = 0; place < places; place++) {
                for (int next = 0; next < places; next++) {
                    facts[0] = place;
                    facts[1] = next;
                    if (reckon(VERB, verb) != 0) {
                        law |= 1 << (place * 4 + next);
                    }
                }
            }
            return law;
        }

        /** What the E of a BEND or a VERB comes to with the facts as they are set. */
        private int reckon(int kind, int number) {
            int top = 0;
            int end = Math.min(lawEnds[kind * SLOTS + number], codeMany);
            for (int i = lawStarts[kind * SLOTS + number]; i < end; i++) {
                int value = code[i];
                if (value == NOT && top > 0) {
                    stack[top - 1] = stack[top - 1] == 0 ? 1 : 0;
                } else if (value < NOT && top > 1) {
                    top--;
                    stack[top - 1] = operate(value, stack[top - 1], stack[top]);
                } else if (value >= LAST_FACT && top < STACK) {
                    stack[top] = value >= 0 ? value : facts[FIRST_FACT - value];
                    top++;
                }
            }
            return stack[0];
        }

        private static int operate(int operator, int a, int b) {
            switch (operator) {
                case AND:
                    return a != 0 && b != 0 ? 1 : 0;
                case OR:
                    return a != 0 || b != 0 ? 1 : 0;
                case LESS:
                    return a < b ? 1 : 0;
                case EQUAL:
                    return a == b ? 1 : 0;
                case PLUS:
                    return a + b;
                case MINUS:
                    return a - b;
                default:
                    return a * b;
            }
        }

        /** A THING with its BENDS, NONE for none, as a NOUN. */
        int bendNoun(int thing, int inner, int outer) {
            int way = 0;
            for (int place = 0; place < places; place++) {
                way |= bent(thing, outer, bent(thing, inner, place)) << 2 * place;
            }
            return way << 3 | thing;
        }

        private int bent(int thing, int bend, int place) {
            int way = bend >= 0 && bend < many[BEND] && isThing(thing) ? ways[bend * MOST_THINGS + thing] : STRAIGHT;
            return way >> (2 * place) & 3;
        }

        /** The NOUN of a number, or NONE if its THING or BEND is not there. */
        int nounOf(int number) {
            int thing = number / (MOST_BENDS + 1);
            int bend = number % (MOST_BENDS + 1) - 1;
            if (number < 0 || thing >= many[THING] || bend >= many[BEND]) {
                return NONE;
            }
            int way = bend >= 0 ? ways[bend * MOST_THINGS + thing] : STRAIGHT;
            return way << 3 | thing;
        }

        private static int thingOf(int noun) {
            return Math.min(noun & 7, MOST_THINGS - 1);
        }

        /** Two NOUNS as a CLAUSE of a FORMULA's code. */
        int joinNouns(int first, int second) {
            return first << NOUN_BITS | second;
        }

        int firstOf(int clause) {
            return clause >> NOUN_BITS;
        }

        int secondOf(int clause) {
            return clause & (1 << NOUN_BITS) - 1;
        }

        /** Where a NOUN is while its THING is at a PLACE. */
        private static int placeOf(int noun, int place) {
            return noun >> (3 + 2 * place) & 3;
        }

        /** The law of a VERB for the THINGS of two NOUNS: where there is none, nothing holds. */
        private int lawOn(int first, int second, int verb) {
            if (first < 0 || second < 0 || verb < 0 || verb >= many[VERB]) {
                return 0;
            }
            return laws[lawIndex(verb, thingOf(first), thingOf(second))];
        }

        /** A bit for each two PLACES of the two THINGS, as in lawOf: whether the CLAUSE holds there. */
        int tableOf(int first, int second, int verb) {
            int law = lawOn(first, second, verb);
            int table = 0;
            for (int place = 0; place < places; place++) {
                int row = law >> 4 * placeOf(first, place);
                for (int next = 0; next < places; next++) {
                    table |= (row >> placeOf(second, next) & 1) << (place * 4 + next);
                }
            }
            return table;
        }

        int firstThing(int clause) {
            return thingOf(nounOf(clause / NOUNS));
        }

        int secondThing(int clause) {
            return thingOf(nounOf(clause % NOUNS));
        }

        int clauseTable(int clause, int verb) {
            return tableOf(nounOf(clause / NOUNS), nounOf(clause % NOUNS), verb);
        }

        boolean clauseHolds(int clause, int verb, int world) {
            int first = nounOf(clause / NOUNS);
            int second = nounOf(clause % NOUNS);
            int place = placeOf(first, placeIn(world, thingOf(first)));
            int next = placeOf(second, placeIn(world, thingOf(second)));
            return (lawOn(first, second, verb) >> (place * 4 + next) & 1) != 0;
        }

        private int placeIn(int world, int thing) {
            int digits = world;
            for (int i = many[THING] - 1; i > thing; i--) {
                digits = places > 0 ? digits / places : 0;
            }
            return places > 0 ? digits % places : 0;
        }

        /** All two PLACES that two THINGS can be at: one THING is at one alone. */
        int wholeTable(boolean alike) {
            int row = (1 << places) - 1;
            int whole = row | row << 4 | row << 8 | row << 12;
            whole &= (1 << 4 * places) - 1;
            return alike ? whole & DIAGONAL : whole;
        }

        /** The table of the first THING's being at a PLACE. */
        int firstAt(int place) {
            return 15 << 4 * place;
        }

        /** The table of the second THING's being at a PLACE. */
        int secondAt(int place) {
            return (1 | 1 << 4 | 1 << 8 | 1 << 12) << place;
        }

        /** The WORLDS in which a THING is at a PLACE. */
        void spot(int thing, int place, WorldSet into) {
            into.clear();
            if (isThing(thing) && isPlace(place)) {
                System.arraycopy(spots, spotIndex(thing, place, 0), into.bits, 0, LONGS);
            }
        }

        /** The WORLDS in which the CLAUSE of two NOUNS holds. */
        void spread(int first, int second, int verb, WorldSet into) {
            int table = tableOf(first, second, verb);
            into.clear();
            if (table == 0) {
                return;
            }
            for (int i = 0; i < longs && i < LONGS; i++) {
                into.bits[i] = longOf(table, thingOf(first), thingOf(second), i);
            }
        }

        /** Sixty-four of the WORLDS in which a table has the PLACES of two THINGS. */
        long longOf(int table, int first, int second, int i) {
            long worlds = 0;
            for (int place = 0; place < places; place++) {
                int row = table >> place * 4 & 15;
                long there = 0;
                for (int next = 0; row >> next != 0 && next < places; next++) {
                    if ((row >> next & 1) != 0) {
                        there |= spots[spotIndex(second, next, i)];
                    }
                }
                worlds |= there & spots[spotIndex(first, place, i)];
            }
            return worlds;
        }

        /** Sixty-four of all WORLDS. */
        long wholeLong(int i) {
            return WorldSet.wholeLong(worldMany, i);
        }
    }

    /** A set of WORLDS. */
    private static final class WorldSet {
        final long[] bits = new long[LONGS];

        /** The i-th long of a set of so many WORLDS, if all of them are in it. */
        static long wholeLong(int worlds, int i) {
            int rest = worlds - 64 * i;
            if (rest >= 64) {
                return -1L;
            }
            return rest > 0 ? (1L << rest) - 1L : 0L;
        }

        void clear() {
            Arrays.fill(bits, 0L);
        }

        void fill(int worlds) {
            for (int i = 0; i < LONGS; i++) {
                bits[i] = wholeLong(worlds, i);
            }
        }

        void take(WorldSet other) {
            System.arraycopy(other.bits, 0, bits, 0, LONGS);
        }

        void keep(WorldSet other) {
            for (int i = 0; i < LONGS; i++) {
                bits[i] &= other.bits[i];
            }
        }

        void join(WorldSet other) {
            for (int i = 0; i < LONGS; i++) {
                bits[i] |= other.bits[i];
            }
        }

        void drop(WorldSet other) {
            for (int i = 0; i < LONGS; i++) {
                bits[i] &= ~other.bits[i];
            }
        }

        /** All of so many WORLDS but those that are in it. */
        void turn(int worlds) {
            for (int i = 0; i < LONGS; i++) {
                bits[i] = ~bits[i] & wholeLong(worlds, i);
            }
        }

        int size() {
            int size = 0;
            for (int i = 0; i < LONGS; i++) {
                size += Long.bitCount(bits[i]);
            }
            return size;
        }

        boolean isEmpty() {
            return least() == NONE;
        }

        int least() {
            for (int i = 0; i < LONGS; i++) {
                if (bits[i] != 0) {
                    return i * 64 + Long.bitCount((bits[i] & -bits[i]) - 1L);
                }
            }
            return NONE;
        }

        boolean has(int world) {
            return world >= 0 && world < LONGS * 64 && (bits[world / 64] >> world % 64 & 1L) != 0;
        }

        boolean isLike(WorldSet other) {
            for (int i = 0; i < LONGS; i++) {
                if (bits[i] != other.bits[i]) {
                    return false;
                }
            }
            return true;
        }
    }

    /** Finds the WORLDS that a FORMULA means by a VERB. */
    private static final class Meaning {
        /** Each of five levels leaves at most an operand of or and one of and behind. */
        private static final int STACK = 16;

        private final Land land;
        private final WorldSet[] stack = new WorldSet[STACK];

        Meaning(Land land) {
            this.land = land;
            for (int i = 0; i < STACK; i++) {
                stack[i] = new WorldSet();
            }
        }

        void find(int[] formula, int verb, WorldSet into) {
            int top = 0;
            for (int i = 0; i < formula.length; i++) {
                int value = formula[i];
                if (value == NOT && top > 0) {
                    stack[top - 1].turn(land.worldMany);
                } else if (value < NOT && top > 1) {
                    top--;
                    joinTop(value, top);
                } else if (value >= 0 && top < STACK) {
                    land.spread(land.firstOf(value), land.secondOf(value), verb, stack[top]);
                    top++;
                }
            }
            into.take(stack[0]);
        }

        private void joinTop(int operator, int top) {
            if (operator == AND) {
                stack[top - 1].keep(stack[top]);
            } else {
                stack[top - 1].join(stack[top]);
            }
        }
    }

    /** A SAYING, SAID or ORDERED: the DAY on which it was told, that by whose VERB it binds, and what it leaves. */
    private static final class Saying {
        final int[] formula;
        final int toldOn;
        final int day;
        final WorldSet bound = new WorldSet();

        Saying(int[] formula, int toldOn, int day) {
            this.formula = formula;
            this.toldOn = toldOn;
            this.day = day;
        }
    }

    /** All that a MARK holds; what can be undone goes with it, but is never copied. */
    private static final class Book {
        private static final int TOLD = 0;
        private static final int TAKEN_BACK = 1;
        private static final int KEPT = 2;

        int day;
        int saidMany;
        int orderMany;
        int seenMany;
        int deedMany;
        int[] asked = new int[0];
        private final int[] nothing = asked;
        private final Saying[] said = new Saying[MOST_SAID];
        private final Saying[] orders = new Saying[MOST_ORDERS];
        private final int[] seen = new int[MOST_SEEN];
        private final int[] deeds = new int[MOST_DEEDS];
        private final int[] deedPlaces = new int[MOST_DEEDS];
        private final Saying[] deedSayings = new Saying[MOST_DEEDS];

        void forget() {
            day = 0;
            saidMany = 0;
            orderMany = 0;
            seenMany = 0;
            deedMany = 0;
            asked = nothing;
        }

        void copyFrom(Book other) {
            day = other.day;
            saidMany = other.saidMany;
            orderMany = other.orderMany;
            seenMany = other.seenMany;
            deedMany = 0;
            asked = other.asked;
            for (int i = 0; i < MOST_SAID; i++) {
                said[i] = other.said[i];
            }
            for (int i = 0; i < MOST_ORDERS; i++) {
                orders[i] = other.orders[i];
            }
            System.arraycopy(other.seen, 0, seen, 0, MOST_SEEN);
        }

        /** A FORMULA has a CLAUSE at least, so an empty one stands for nothing ASKED. */
        boolean hasAsked() {
            return asked.length > 0;
        }

        Saying saidAt(int number) {
            return number >= 0 && number < saidMany ? said[number] : null;
        }

        Saying orderAt(int number) {
            return number >= 0 && number < orderMany ? orders[number] : null;
        }

        void passDays(int many) {
            day += many;
            deedMany = 0;
        }

        void tell(Saying saying) {
            if (insertSaid(saidMany, saying)) {
                noteDeed(TOLD, saidMany - 1, saying);
            }
        }

        boolean takeBack(int number) {
            Saying saying = saidAt(number);
            if (saying == null) {
                return false;
            }
            removeSaid(number);
            noteDeed(TAKEN_BACK, number, saying);
            return true;
        }

        void keepOrder(Saying saying) {
            if (orderMany < MOST_ORDERS) {
                orders[orderMany] = saying;
                orderMany++;
                noteDeed(KEPT, orderMany - 1, saying);
            }
        }

        boolean undoLast() {
            if (deedMany == 0) {
                return false;
            }
            deedMany--;
            switch (deeds[deedMany]) {
                case TOLD:
                    removeSaid(deedPlaces[deedMany]);
                    break;
                case TAKEN_BACK:
                    insertSaid(deedPlaces[deedMany], deedSayings[deedMany]);
                    break;
                default:
                    orderMany = Math.max(orderMany - 1, 0);
                    break;
            }
            return true;
        }

        private boolean insertSaid(int number, Saying saying) {
            if (number < 0 || number > saidMany || saidMany >= MOST_SAID) {
                return false;
            }
            for (int i = saidMany; i > number; i--) {
                said[i] = said[i - 1];
            }
            said[number] = saying;
            saidMany++;
            return true;
        }

        private void removeSaid(int number) {
            if (number < 0 || number >= saidMany) {
                return;
            }
            saidMany--;
            for (int i = number; i < saidMany; i++) {
                said[i] = said[i + 1];
            }
        }

        private void noteDeed(int deed, int number, Saying saying) {
            if (deedMany >= MOST_DEEDS) {
                deedMany = MOST_DEEDS - 1;
                for (int i = 0; i < deedMany; i++) {
                    deeds[i] = deeds[i + 1];
                    deedPlaces[i] = deedPlaces[i + 1];
                    deedSayings[i] = deedSayings[i + 1];
                }
            }
            deeds[deedMany] = deed;
            deedPlaces[deedMany] = number;
            deedSayings[deedMany] = saying;
            deedMany++;
        }

        boolean noteSeen(int clause, int world, boolean isTrue) {
            if (seenMany >= MOST_SEEN) {
                return false;
            }
            seen[seenMany] = (clause * LONGS * 64 + world) * 2 + (isTrue ? 1 : 0);
            seenMany++;
            return true;
        }

        int seenClause(int i) {
            return seen[i] / 2 / (LONGS * 64);
        }

        int seenWorld(int i) {
            return seen[i] / 2 % (LONGS * 64);
        }

        boolean seenTrue(int i) {
            return seen[i] % 2 != 0;
        }

        /** Whether some of what is SAID, by bits, leaves nothing of these WORLDS. */
        boolean leavesNothing(WorldSet worlds, int set) {
            for (int i = 0; i < LONGS; i++) {
                long rest = worlds.bits[i];
                for (int number = 0; rest != 0 && number < saidMany; number++) {
                    Saying told = saidAt(number);
                    if (told != null && (set >> number & 1) != 0) {
                        rest &= told.bound.bits[i];
                    }
                }
                if (rest != 0) {
                    return false;
                }
            }
            return true;
        }

        /** Lets the ORDERS of a DAY come. */
        void keepOrdersOf(int dawning, WorldSet worlds) {
            for (int i = 0; i < orderMany; i++) {
                Saying kept = orderAt(i);
                if (kept != null && kept.day == dawning) {
                    worlds.keep(kept.bound);
                }
            }
        }
    }

    /** Looks for LITERALS and CLAUSES that mean some WORLDS, the target. */
    private static final class Finder {
        private static final int ALONE = 0;
        private static final int BY_AND = 1;
        private static final int BY_OR = 2;
        private static final int FEWEST_WORDS = 2;
        /** Above the words of any two LITERALS. */
        private static final int NOT_FOUND = 99;

        int words;
        int joint;
        int first;
        int second;
        final int[] sayableBy = new int[MOST_THINGS * MOST_PLACES];
        private final Land land;
        private final long[] today = new long[CLAUSES * LONGS];
        private final long[] later = new long[CLAUSES * LONGS];
        private final int[] todays = new int[LITERALS];
        private final int[] laters = new int[LITERALS];
        private final WorldSet outside = new WorldSet();
        private final WorldSet rest = new WorldSet();

        Finder(Land land) {
            this.land = land;
        }

        /** Whether the target can be meant by a VERB in one LITERAL or two; words, joint, first, second tell how. */
        boolean findShortest(WorldSet target, int verb) {
            words = NOT_FOUND;
            spreadAll(verb, today);
            findOutside(target);
            findAlone(target);
            // Two LITERALS have five words at least, and one has five at most and goes ahead.
            if (words == NOT_FOUND) {
                findJoined(target, outside, BY_AND);
                findJoined(outside, target, BY_OR);
            }
            return words != NOT_FOUND;
        }

        private void findOutside(WorldSet target) {
            outside.take(target);
            outside.turn(land.worldMany);
        }

        private void findAlone(WorldSet target) {
            for (int literal = 0; literal < LITERALS; literal++) {
                if (land.isClause(literal / 2) && wordsOf(literal) < words
                        && isApart(outside, today, literal) && isApart(target, today, literal ^ 1)) {
                    keepBest(ALONE, literal, NONE, wordsOf(literal));
                }
            }
        }

        /** Two joined by or leave out what their contraries share: so or is and, with all turned round. */
        private void findJoined(WorldSet wanted, WorldSet unwanted, int by) {
            int turned = by == BY_OR ? 1 : 0;
            int many = listAbove(wanted, today, turned, todays);
            for (int i = 0; i < many; i++) {
                int ahead = wordsOf(todays[i]) + 1;
                findRest(unwanted, today, todays[i] ^ turned);
                for (int j = i + 1; j < many && ahead + FEWEST_WORDS < words; j++) {
                    int all = ahead + wordsOf(todays[j]);
                    if (all < words && isApart(rest, today, todays[j] ^ turned)) {
                        keepBest(by, todays[i], todays[j], all);
                    }
                }
            }
        }

        private void keepBest(int newJoint, int newFirst, int newSecond, int newWords) {
            joint = newJoint;
            first = newFirst;
            second = newSecond;
            words = newWords;
        }

        private static int wordsOf(int literal) {
            int one = literal / 2 / NOUNS;
            int other = literal / 2 % NOUNS;
            int bends = (one % (MOST_BENDS + 1) > 0 ? 1 : 0) + (other % (MOST_BENDS + 1) > 0 ? 1 : 0);
            return FEWEST_WORDS + bends + literal % 2;
        }

        /** How many days ahead the second LITERAL is, or NONE; first, second tell which they are. */
        int findTwoDays(WorldSet target, int day) {
            spreadAll(land.verbOf(day), today);
            findOutside(target);
            int many = listAbove(target, today, 0, todays);
            int tried = 0;
            for (int ahead = 1; ahead <= DAYS_AHEAD; ahead++) {
                int verb = land.verbOf(day + ahead);
                if (verb != NONE && (tried >> verb & 1) == 0) {
                    tried |= 1 << verb;
                    spreadAll(verb, later);
                    if (findTogether(many, listAbove(target, later, 0, laters))) {
                        return ahead;
                    }
                }
            }
            return NONE;
        }

        private boolean findTogether(int many, int manyLater) {
            for (int i = 0; i < many; i++) {
                findRest(outside, today, todays[i]);
                for (int j = 0; j < manyLater; j++) {
                    if (isApart(rest, later, laters[j])) {
                        first = todays[i];
                        second = laters[j];
                        return true;
                    }
                }
            }
            return false;
        }

        private void spreadAll(int verb, long[] into) {
            for (int clause = 0; clause < CLAUSES; clause++) {
                if (land.isClause(clause)) {
                    int table = land.clauseTable(clause, verb);
                    int one = land.firstThing(clause);
                    int other = land.secondThing(clause);
                    for (int i = 0; i < land.longs && i < LONGS; i++) {
                        into[clause * LONGS + i] = land.longOf(table, one, other, i);
                    }
                }
            }
        }

        private long longOf(long[] spread, int literal, int i) {
            long worlds = spread[literal / 2 * LONGS + i];
            return literal % 2 == 0 ? worlds : ~worlds & land.wholeLong(i);
        }

        /** Lists the LITERALS that, turned round or not, hold in all that is wanted. */
        private int listAbove(WorldSet wanted, long[] spread, int turned, int[] into) {
            int many = 0;
            for (int literal = 0; literal < LITERALS; literal++) {
                if (land.isClause(literal / 2) && isApart(wanted, spread, literal ^ turned ^ 1)) {
                    into[many] = literal;
                    many++;
                }
            }
            return many;
        }

        /** What a LITERAL leaves of WORLDS that should not be there. */
        private void findRest(WorldSet unwanted, long[] spread, int literal) {
            for (int i = 0; i < land.longs && i < LONGS; i++) {
                rest.bits[i] = unwanted.bits[i] & longOf(spread, literal, i);
            }
        }

        /** Whether a LITERAL holds in none of these WORLDS. */
        private boolean isApart(WorldSet worlds, long[] spread, int literal) {
            for (int i = 0; i < land.longs && i < LONGS; i++) {
                if (worlds.bits[i] != 0 && (worlds.bits[i] & longOf(spread, literal, i)) != 0) {
                    return false;
                }
            }
            return true;
        }

        /** The least CLAUSE that means the target on one of the 7 DAYS from a DAY on and on no other, or NONE. */
        int findRiddle(WorldSet target, int day, int ahead) {
            int verb = land.verbOf(day + ahead);
            if (verb == NONE) {
                return NONE;
            }
            for (int clause = 0; clause < CLAUSES; clause++) {
                if (land.isClause(clause) && isClauseMeant(target, clause, verb)
                        && !isMeantElse(target, clause, day, ahead)) {
                    return clause;
                }
            }
            return NONE;
        }

        private boolean isMeantElse(WorldSet target, int clause, int day, int ahead) {
            for (int i = 0; i <= DAYS_AHEAD; i++) {
                int verb = land.verbOf(day + i);
                if (i != ahead && verb != NONE && isClauseMeant(target, clause, verb)) {
                    return true;
                }
            }
            return false;
        }

        private boolean isClauseMeant(WorldSet target, int clause, int verb) {
            int table = land.clauseTable(clause, verb);
            int one = land.firstThing(clause);
            int other = land.secondThing(clause);
            for (int i = 0; i < land.longs && i < LONGS; i++) {
                if (land.longOf(table, one, other, i) != target.bits[i]) {
                    return false;
                }
            }
            return true;
        }

        /** Finds by which VERBS it is SAYABLE that a THING is at a PLACE, for all of them: sayableBy tells it. */
        void findSayable() {
            Arrays.fill(sayableBy, 0);
            for (int verb = 0; verb < land.many[VERB]; verb++) {
                for (int clause = 0; clause < CLAUSES; clause++) {
                    if (land.isClause(clause)) {
                        noteSayable(clause, verb);
                    }
                }
            }
        }

        /** A CLAUSE can tell the place of its own two THINGS alone, so no other is looked at. */
        private void noteSayable(int clause, int verb) {
            int one = land.firstThing(clause);
            int other = land.secondThing(clause);
            int whole = land.wholeTable(one == other);
            int table = land.clauseTable(clause, verb) & whole;
            for (int place = 0; place < land.places; place++) {
                int spotOfOne = land.firstAt(place) & whole;
                int spotOfOther = land.secondAt(place) & whole;
                if (table == spotOfOne || table == (whole & ~spotOfOne)) {
                    sayableBy[one * MOST_PLACES + place] |= 1 << verb;
                }
                if (table == spotOfOther || table == (whole & ~spotOfOther)) {
                    sayableBy[other * MOST_PLACES + place] |= 1 << verb;
                }
            }
        }

        /** Whether all that is SAYABLE by some VERB is so by one of these. */
        boolean saysAll(int verbs) {
            for (int i = 0; i < sayableBy.length; i++) {
                if (sayableBy[i] != 0 && (sayableBy[i] & verbs) == 0) {
                    return false;
                }
            }
            return true;
        }
    }

    /** The bell that SPEAKERS ring; their choices are digits to the base of 8. */
    private static final class Bell {
        private static final int BASE = 8;
        private static final int MOST_CHOICES = 512;

        private final Land land;
        private final int[] outcomes = new int[MOST_CHOICES];
        private final int[] rung = new int[MOST_VERBS];

        Bell(Land land) {
            this.land = land;
        }

        private int choiceMany() {
            return 1 << 3 * land.many[SPEAKER];
        }

        private static int choiceOf(int digits, int speaker) {
            return digits >> 3 * speaker & BASE - 1;
        }

        boolean areChoices(int digits) {
            if (digits < 0 || digits >= choiceMany()) {
                return false;
            }
            for (int speaker = 0; speaker < land.many[SPEAKER]; speaker++) {
                if (choiceOf(digits, speaker) > land.many[VERB]) {
                    return false;
                }
            }
            return true;
        }

        /** The VERB, or NONE; if none rings it is that of tomorrow. */
        int verbRung(int digits, int tomorrow) {
            Arrays.fill(rung, 0);
            int best = NONE;
            int most = 0;
            for (int speaker = 0; speaker < land.many[SPEAKER]; speaker++) {
                int verb = choiceOf(digits, speaker) - 1;
                if (verb >= 0 && verb < MOST_VERBS) {
                    rung[verb]++;
                }
            }
            for (int verb = 0; verb < MOST_VERBS; verb++) {
                if (rung[verb] > most) {
                    most = rung[verb];
                    best = verb;
                }
            }
            return most > 0 ? best : tomorrow;
        }

        /** For NONE how many RESTS there are, else the one of this number, or NONE. */
        int findRest(int wanted, int tomorrow) {
            int all = Math.min(choiceMany(), MOST_CHOICES);
            for (int digits = 0; digits < all; digits++) {
                outcomes[digits] = verbRung(digits, tomorrow);
            }
            int found = 0;
            for (int digits = 0; digits < all; digits++) {
                if (areChoices(digits) && isAtRest(digits)) {
                    if (found == wanted) {
                        return digits;
                    }
                    found++;
                }
            }
            return wanted == NONE ? found : NONE;
        }

        private boolean isAtRest(int digits) {
            for (int speaker = 0; speaker < land.many[SPEAKER]; speaker++) {
                int has = gainOf(speaker, digits);
                int others = digits & ~(BASE - 1 << 3 * speaker);
                for (int choice = 0; choice <= land.many[VERB]; choice++) {
                    if (gainOf(speaker, others | choice << 3 * speaker) > has) {
                        return false;
                    }
                }
            }
            return true;
        }

        private int gainOf(int speaker, int digits) {
            int verb = digits >= 0 && digits < MOST_CHOICES ? outcomes[digits] : NONE;
            int paid = choiceOf(digits, speaker) > 0 ? land.bribe : 0;
            return land.worthOf(speaker, verb) - paid;
        }
    }
}
