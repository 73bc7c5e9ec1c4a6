import java.util.ArrayList;
import java.util.List;
import java.util.Random;

/** FAULTS of a LAND (promise 3) and of a SAYING (promises 4 to 6); the sign ^ stands ahead of the wrong token. */
final class FaultTest {
    private static final String P = "places 2;";
    private static final String V = P + "thing a weigh 1;verb v 1;verb w 0;";
    private static final String[] RESERVED = {"places", "thing", "weigh", "bend", "verb", "week", "silent", "speaker",
        "wants", "bribe", "not", "and", "or"};
    private static final Due DUE = new Due("FaultTest");

    public static void main(String[] args) {
        firstLines();
        things();
        laws();
        weeks();
        speakersAndBribes();
        tooMany();
        sayings();
        deepSayings();
        names();
        namesAlike();
        noTokens();
        leastKinds();
        depths();
        faultsLeaveAll();
        likeTheModel();
        DUE.end();
    }

    private static int faultDue(String marked, int kind) {
        return kind == 0 ? 0 : kind + 16 * marked.indexOf('^');
    }

    private static void land(String marked, int kind) {
        DUE.is("land of " + marked, Due.land(new OneVerb(), marked.replace("^", "")), faultDue(marked, kind));
    }

    private static void saying(String marked, int kind) {
        OneVerb x = new OneVerb();
        Due.land(x, P + "thing a weigh 1;thing b weigh 2;bend f place;bend g place;bend h place;verb v 1;"
            + "speaker s wants v 1;");
        String text = marked.replace("^", "");
        DUE.is("ask of " + marked, Due.ask(x, text), faultDue(marked, kind));
        DUE.is("say of " + marked, Due.say(x, text), faultDue(marked, kind));
        DUE.is("order of " + marked, Due.order(x, text, 1), faultDue(marked, kind));
    }

    private static void firstLines() {
        land("^", 1);
        land("  \n ^", 1);
        land("^thing a weigh 1;", 1);
        land("^Places 2;", 1);
        land("places^", 1);
        land("places \n ^", 1);
        land("places ^;", 1);
        land("places ^two;", 1);
        land("places ^1;", 4);
        land("places ^5;", 4);
        land("places ^0;", 4);
        land("places ^9999;", 4);
        land("places ^12345;", 1);
        land("places ^00002;", 1);
        land("places 0002;", 0);
        land("places2;", 0);
        land("\nplaces\n3\n;\n", 0);
        land("places 4;", 0);
        land("places 2^", 1);
        land("places 2 ^thing a weigh 1;", 1);
        land(P + "^places 2;", 1);
        land(P + "^;", 1);
        land(P + "^a;", 1);
        land(P + "^2;", 1);
        land(P + "^!", 1);
        land(P + "^things a weigh 1;", 1);
        land(P + "^thinginabox a weigh 1;", 1);
        for (String word : new String[] {"weigh", "silent", "wants", "not", "and", "or"}) {
            land(P + "^" + word + " a;", 1);
        }
    }

    private static void things() {
        land(P + "thing^", 1);
        land(P + "thing ^;", 1);
        land(P + "thing ^5 weigh 1;", 1);
        land(P + "thing ^abcdefghi weigh 1;", 1);
        land(P + "thing abcdefgh weigh 1;", 0);
        for (String word : RESERVED) {
            land(P + "thing ^" + word + " weigh 1;", 1);
        }
        for (String word : new String[] {"first", "second", "light", "heavy", "alike", "place", "weight"}) {
            land(P + "thing " + word + " weigh 1;", 0);
        }
        land(P + "thing a ^1;", 1);
        land(P + "thing a ^weight 1;", 1);
        land(P + "thing a weigh ^;", 1);
        land(P + "thing a weigh ^-1;", 1);
        land(P + "thing a weigh ^100;", 4);
        land(P + "thing a weigh ^10000;", 1);
        land(P + "thing a weigh 99;thing b weigh 0;", 0);
        land(P + "thing a weigh 1^", 1);
        land(P + "thing a weigh 1 ^2;", 1);
        land(P + "thing a weigh 1^x;", 1);
        land(P + "thing a weigh 1;thing ^a weigh 1;", 3);
        land(P + "thing a weigh 1;bend ^a place;", 3);
        land(P + "bend a 1;verb ^a 1;", 3);
        land(P + "verb a 1;speaker ^a wants a 1;", 3);
        land(P + "verb a 1;speaker b wants a 1;thing ^b weigh 1;", 3);
    }

    private static void laws() {
        land(P + "bend b ^;", 1);
        land(P + "bend b ^first;", 1);
        land(P + "verb b ^place;", 1);
        land(P + "verb b ^weight;", 1);
        land(P + "verb b ^b;", 1);
        land(P + "bend b place+weight*2-1<3 and not place=weight or (1);", 0);
        land(P + "verb b first+second*light-heavy<alike;", 0);
        land(P + "verb b 1and 2or 3;", 0);
        land(P + "verb b first<second^<first;", 1);
        land(P + "verb b first=second^<first;", 1);
        land(P + "verb b (first<second)<first;", 0);
        land(P + "verb b first ^second;", 1);
        land(P + "verb b first+^;", 1);
        land(P + "verb b ^-1;", 1);
        land(P + "verb b first*^*1;", 1);
        land(P + "verb b first and ^and 1;", 1);
        land(P + "verb b (first^;", 1);
        land(P + "verb b first^);", 1);
        land(P + "verb b (^);", 1);
        land(P + "verb b not ^;", 1);
        land(P + "verb b ^12345;", 1);
        land(P + "verb b 9999;", 0);
        land(P + "verb b 1^", 1);
        land(P + "verb b 1 ^verb c 1;", 1);
        land(P + "verb b not not not not 1;", 0);
        land(P + "verb b ((((1))));", 0);
        land(P + "verb b not not not not not ^1;", 5);
        land(P + "verb b not not not not not ^not 1;", 5);
        land(P + "verb b not not not not not ^(1);", 5);
        land(P + "verb b not not not not not ^first;", 5);
        land(P + "verb b not not not not not ^place;", 1);
        land(P + "verb b not not not not not ^;", 1);
        land(P + "verb b (((((^1)))));", 5);
        land(P + "verb b ((((1+(^1)))));", 5);
        land(P + "verb b ((((1)+1)))+((((1))))+not not not not 1;", 0);
        land(P + "bend b not(not(not ^1));", 5);
        land(P + "bend b (not(not 1));", 0);
    }

    private static void weeks() {
        land(V + "week ^;", 1);
        land(V + "week ^5;", 1);
        land(V + "week ^u;", 2);
        land(V + "week v ^a;", 2);
        land(V + "week ^first v;", 2);
        land(V + "week v ^and;", 1);
        land(V + "week ^week;", 1);
        land(V + "week v^", 1);
        land(V + "week v w silent v w silent v;", 0);
        land(V + "week v w silent v w silent v ^v;", 5);
        land(V + "week v w silent v w silent v ^silent;", 5);
        land(V + "week v w silent v w silent v ^u;", 2);
        land(V + "week v w silent v w silent v ^a;", 2);
        land(V + "week v w silent v w silent v ^not;", 1);
        land(V + "week v w silent v w silent v ^1;", 1);
        land(V + "week v;^week w;", 3);
        land(P + "week silent;", 0);
        land(P + "week ^v;verb v 1;", 2);
    }

    private static void speakersAndBribes() {
        land(V + "speaker ^;", 1);
        land(V + "speaker s ^v 1;", 1);
        land(V + "speaker s wants ^;", 1);
        land(V + "speaker s wants ^5;", 1);
        land(V + "speaker s wants ^silent 5;", 1);
        land(V + "speaker s wants ^u 5;", 2);
        land(V + "speaker s wants ^s 5;", 2);
        land(V + "speaker s wants ^place 5;", 2);
        land(V + "speaker s wants ^a 5;", 2);
        land(V + "speaker s wants v ^;", 1);
        land(V + "speaker s wants v ^w 1;", 1);
        land(V + "speaker s wants v ^100;", 4);
        land(V + "speaker s wants v 99 ^1;", 1);
        land(V + "speaker s wants v 1 ^v 2;", 3);
        land(V + "speaker s wants v 1 w 2 ^v 3;", 3);
        land(V + "speaker s wants v 1 w 2 ^u 3;", 2);
        land(V + "speaker s wants v 1 w ^;", 1);
        land(V + "speaker s wants w 0 v 99;speaker t wants v 1;", 0);
        land(P + "bribe ^;", 1);
        land(P + "bribe ^x;", 1);
        land(P + "bribe ^100;", 4);
        land(P + "bribe 0;", 0);
        land(P + "bribe 99;^bribe 99;", 3);
        land(P + "bribe 9 ^9;", 1);
    }

    private static void tooMany() {
        String five = "thing a weigh 1;thing b weigh 1;thing c weigh 1;thing d weigh 1;thing e weigh 1;";
        land(P + five, 0);
        land(P + five + "^thing f weigh 1;", 5);
        land(P + five + "^thing", 5);
        String three = "bend a 1;bend b 1;bend c 1;";
        land(P + three, 0);
        land(P + three + "^bend a 1;", 5);
        String six = "verb a 1;verb b 1;verb c 1;verb d 1;verb e 1;verb f 1;";
        land(P + six + "speaker s wants a 1 b 2 c 3 d 4 e 5 f 6;", 0);
        land(P + six + "^verb g 1;", 5);
        land(P + six + "speaker s wants a 1 b 2 c 3 d 4 e 5 f 6 ^a 1;", 3);
        land(V + "speaker p wants v 1;speaker q wants v 1;speaker r wants v 1;", 0);
        land(V + "speaker p wants v 1;speaker q wants v 1;speaker r wants v 1;^speaker s wants v 1;", 5);
    }

    private static void sayings() {
        saying("^", 1);
        saying("   ^", 1);
        saying("^;", 1);
        saying("a^", 1);
        saying("a ^;", 1);
        saying("a b^", 1);
        saying("a b \n^", 1);
        saying("a b;", 0);
        saying("a b;\n", 0);
        saying("a b;^;", 1);
        saying("a b; ^a b;", 1);
        saying("^x b;", 2);
        saying("a ^x;", 2);
        saying("^v a;", 2);
        saying("a ^s;", 2);
        saying("^first a;", 2);
        saying("a ^not b;", 1);
        saying("^and;", 1);
        saying("^silent a;", 1);
        saying("a ^5;", 1);
        saying("a ^abcdefghi;", 1);
        saying("a ^B;", 1);
        saying("a b ^a;", 1);
        saying("a b ^= a b;", 1);
        saying("f a b;", 0);
        saying("f f a g h b;", 0);
        saying("f ^;", 1);
        saying("f g ^h a b;", 5);
        saying("f g ^f a b;", 5);
        saying("a f g ^h b;", 5);
        saying("f g ^x a;", 2);
        saying("f g ^v a;", 2);
        saying("f g ^and a;", 1);
        saying("a f^", 1);
        saying("not^;", 1);
        saying("not not a b;", 0);
        saying("a b or^", 1);
        saying("a b or ^;", 1);
        saying("a b and ^or a b;", 1);
        saying("a b or a a and not (b b or b a);", 0);
        saying("(a b^;", 1);
        saying("a b^);", 1);
        saying("(^);", 1);
    }

    private static void deepSayings() {
        saying("not not not not a b;", 0);
        saying("((((a b))));", 0);
        saying("((((a b or a a)) and a b)) or not not not not a b;", 0);
        saying("not not not not not ^a b;", 5);
        saying("not not not not not ^f a b;", 5);
        saying("not not not not not ^not a b;", 5);
        saying("not not not not not ^(a b);", 5);
        saying("not not not not not ^x b;", 2);
        saying("not not not not not ^v b;", 2);
        saying("not not not not not ^and;", 1);
        saying("not not not not not ^;", 1);
        saying("(((((^a b)))));", 5);
        saying("((((a b and (^a b)))));", 5);
        saying("not(not(not ^a b));", 5);
    }

    /** Each kind of line wants a NAME, and no word of the language is one. */
    private static void names() {
        String[][] lines = {{"thing ", " weigh 1;"}, {"bend ", " 1;"}, {"verb ", " 1;"}, {"speaker ", " wants v 1;"}};
        for (String[] line : lines) {
            for (String word : RESERVED) {
                land(V + line[0] + "^" + word + line[1], 1);
            }
            for (String name : new String[] {"first", "place", "zzzzzzzz", "z", "placesa", "no", "ands"}) {
                land(V + line[0] + name + line[1], 0);
            }
            for (String none : new String[] {"7", "(", "=", "Z", "abcdefghi", "12345"}) {
                land(V + line[0] + "^" + none + line[1], 1);
            }
            land(V + line[0] + "^", 1);
            land(V + line[0] + "z^", 1);
            for (String told : new String[] {"a", "b", "v", "s"}) {
                String all = P + "thing a weigh 1;bend b 1;verb v 1;speaker s wants v 1;";
                land(all + line[0] + "^" + told + line[1], 3);
            }
        }
        for (String word : RESERVED) {
            if (!word.equals("silent")) {
                land(V + "week v ^" + word + ";", 1);
            }
            land(V + "speaker s wants ^" + word + " 1;", 1);
            if (!word.equals("not")) {
                saying("^" + word + " b;", 1);
            }
            saying("a ^" + word + " b;", 1);
            saying("f ^" + word + " b;", 1);
        }
    }

    /** NAMES are alike only if all their letters are. */
    private static void namesAlike() {
        String things = "thing a weigh 1;thing aa weigh 2;thing aaa weigh 3;thing abcdefgh weigh 4;thing bcdefgha weigh 5;";
        land(P + things + "bend aaaa 1;bend abcdefg 1;bend abcdefgi 1;verb z 1;verb az 1;verb za 1;verb zzzzzzzz 1;"
            + "verb zzzzzzzy 1;verb zzzzzzz 1;week zzzzzzz az zzzzzzzy za;", 0);
        OneVerb x = DUE.in(P + things + "verb z 1;verb az 0;verb za 1;week za az z;");
        int[] verbs = {2, 1, 0};
        for (int day = 0; day < 3; day++) {
            DUE.is("verb(" + day + ") of names near each other", x.verb(day), verbs[day]);
        }
        DUE.is("say() of a", Due.say(x, "a aaa;"), 0);
        DUE.is("say() of aaaa", Due.say(x, "aa aaaa;"), 2 + 16 * 3);
        DUE.is("say() of abcdefg", Due.say(x, "abcdefg a;"), 2);
        DUE.is("say() of abcdefgh", Due.say(x, "bcdefgha abcdefgh;"), 0);
    }

    /** What is no token can stand nowhere. */
    private static void noTokens() {
        for (char c = 33; c < 127; c++) {
            boolean isToken = c >= 'a' && c <= 'z' || c >= '0' && c <= '9' || "()<=+-*;".indexOf(c) >= 0;
            if (!isToken && c != '^') {
                land("^" + c + "places 2;", 1);
                land("places ^" + c + "2;", 1);
                land(P + "verb v 1^" + c + "1;", 1);
                land(P + "verb v^" + c + "1;", 1);
                land(V + "week v^" + c + "w;", 1);
                saying("^" + c + "a b;", 1);
                saying("a^" + c + "b;", 1);
                saying("a b^" + c + ";", 1);
                saying("a b;^" + c, 1);
            }
        }
        for (String sign : new String[] {"<", "=", "+", "-", "*"}) {
            saying("a b ^" + sign + " a b;", 1);
            saying("^" + sign + "a b;", 1);
            land(P + "verb v ^" + sign + "1;", 1);
            land(P + "^" + sign, 1);
        }
        OneVerb x = new OneVerb();
        DUE.is("land() of ^", Due.land(x, "places 2;^"), 1 + 16 * 9);
        saying("a b;^12345", 1);
        saying("a b;^abcdefghi", 1);
        saying("a b;^a", 1);
        saying("^12345 b;", 1);
        saying("^1 b;", 1);
        land(P + "verb v (^123456789);", 1);
        land(P + "verb v 1+^alikewise;", 1);
        land(P + "bend v place ^9999;", 1);
        land("places ^2222222222222222222222222222222;", 1);
        land("^aaaaaaaaaaaaaaaaaaaaaaaaaaaaaaaaaaaaaaaa", 1);
        land("^placesplaces 2;", 1);
        land("^pla ces 2;", 1);
    }

    /** The first wrong token counts, and of it the least kind. */
    private static void leastKinds() {
        saying("a b or ^x b;", 2);
        saying("a b and ^x b;", 2);
        saying("a b and a ^x;", 2);
        saying("not ^x b;", 2);
        saying("(^x b);", 2);
        saying("a b and not ^and;", 1);
        saying("(a b or ^) and;", 1);
        saying("^x x x;", 2);
        saying("a ^7 x;", 1);
        saying("f g ^7 x;", 1);
        saying("f g ^(a b);", 1);
        saying("f g ^h x;", 5);
        land(P + "thing a weigh ^100;thing a weigh 1;", 4);
        land(V + "week v;^week u;", 3);
        land(V + "week v;^week;", 3);
        land(V + "bribe 1;^bribe 100;", 3);
        land(V + "bribe 1;^bribe;", 3);
        land(V + "speaker s wants w 1 ^w 100;", 3);
        land(V + "speaker s wants w 1 v 2 ^w 3;", 3);
        land(V + "speaker s wants w ^100 w;", 4);
        land(V + "speaker s wants ^a 100;", 2);
        String three = "speaker p wants v 1;speaker q wants v 1;speaker r wants v 1;";
        land(V + three + "^speaker v wants u 100;", 5);
        land(V + three + "^speaker;", 5);
        land(V + "bend p 1;bend q 1;bend r 1;^bend a first;", 5);
        land(P + "verb b first<second^<;", 1);
    }

    /** not and ( ) count wherever the PART or ITEM stands, those that are closed no more. */
    private static void depths() {
        for (String ahead : new String[] {"", "1+", "1-", "1*", "1<", "1=", "1 and ", "1 or ", "(1)*", "((((1))))+"}) {
            land(P + "verb v " + ahead + "not not not not 1;", 0);
            land(P + "verb v " + ahead + "not not not not not ^1;", 5);
            land(P + "verb v " + ahead + "((((1))));", 0);
            land(P + "verb v " + ahead + "(((((^1)))));", 5);
        }
        for (String ahead : new String[] {"", "1+", "1-", "1*", "1<", "1=", "1 and ", "1 or "}) {
            land(P + "bend v not(" + ahead + "not(" + ahead + "1));", 0);
            land(P + "bend v not(" + ahead + "not(" + ahead + "not ^place));", 5);
        }
        land(P + "verb v ((((1)+(1))*(1)));", 0);
        land(P + "verb v ((((1)+((^1)))));", 5);
        land(P + "verb v ((((1+not ^1))));", 5);
        for (String ahead : new String[] {"", "a b and ", "a b or ", "(a b)and ", "((((a b))))or "}) {
            saying(ahead + "not not not not a b;", 0);
            saying(ahead + "not not not not not ^a b;", 5);
            saying(ahead + "((((a b))));", 0);
            saying(ahead + "(((((^a b)))));", 5);
        }
        for (String ahead : new String[] {"", "a b and ", "a b or "}) {
            saying("not(" + ahead + "not(" + ahead + "a b));", 0);
            saying("not(" + ahead + "not(" + ahead + "not ^b a));", 5);
            saying("not(" + ahead + "not(" + ahead + "(^f a b)));", 5);
        }
    }

    private static void faultsLeaveAll() {
        OneVerb x = new OneVerb();
        Due.land(x, V);
        Due.say(x, "a a;");
        Due.ask(x, "a a;");
        x.mark(2, false);
        DUE.is("a wrong land", Due.land(x, "places 3;thing"), 1 + 16 * 14);
        DUE.is("a wrong question", Due.ask(x, "b b;"), 2);
        DUE.is("a wrong saying", Due.say(x, "a;"), 1 + 16);
        int[] counts = {2, 1, 0, 2, 0, 0, 0, 1, 0, 1, 0, 1, 1, 0};
        for (int what = 0; what < counts.length; what++) {
            DUE.is("count(" + what + ") behind faults", x.count(what), counts[what]);
        }
        DUE.is("mark(2, true) behind faults", x.mark(2, true), true);
        DUE.is("meant(0) behind faults", x.meant(0), 2);
    }

    /** Random rows of tokens that are nearly lands and nearly sayings, against the plain model. */
    private static void likeTheModel() {
        Random random = new Random(5);
        String lands = "places 3 ; thing a weigh 1 ; bend f place + weight * ( not 2 ) ; thing b weigh 2 ; bend g 1 ; "
            + "verb v first < second and ( light = heavy or alike ) ; verb w 1 ; week v silent w v ; "
            + "speaker p wants v 3 w 4 ; bribe 5 ; thing c weigh 3 ; speaker q wants w 1 ; bend h not not place ; "
            + "verb u not ( not ( first ) ) ; thing d weigh 9 ; thing e weigh 9 ;";
        String sayings = "not ( a f b or g f b a and not ( not c d ) ) and ( e a or h a f f b ) ;";
        for (int i = 0; i < 6000; i++) {
            OneVerb x = new OneVerb();
            Model m = new Model();
            String land = mix(lands, random, random.nextInt(4));
            tell(x, m, land);
            DUE.is("land of " + land, x.land(), m.land());
            for (int j = 0; j < 3; j++) {
                String saying = mix(sayings, random, random.nextInt(4));
                tell(x, m, saying);
                DUE.is("ask of " + saying + " in " + land, x.ask(), m.ask());
            }
        }
    }

    private static void tell(OneVerb x, Model m, String text) {
        for (int at = 0; at < text.length(); at += 8) {
            x.feed(Due.bytes(text, at), 0, 0);
            m.feed(Due.bytes(text, at), 0, 0);
        }
    }

    private static String mix(String text, Random random, int changes) {
        List<String> tokens = new ArrayList<>(List.of(text.split(" ")));
        for (int i = 0; i < changes; i++) {
            int place = random.nextInt(tokens.size());
            int other = random.nextInt(tokens.size());
            switch (random.nextInt(5)) {
                case 0 -> tokens.add(place, tokens.get(other));
                case 1 -> tokens.set(place, tokens.get(other));
                case 2 -> tokens.remove(place);
                case 3 -> {
                    int end = Math.min(other + 4, tokens.size());
                    tokens.addAll(place, new ArrayList<>(tokens.subList(other, end)));
                }
                default -> tokens.set(place, RESERVED[random.nextInt(RESERVED.length)]);
            }
        }
        return String.join(random.nextInt(9) == 0 ? "" : " ", tokens);
    }
}
