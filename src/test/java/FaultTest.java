import java.util.ArrayList;
import java.util.List;
import java.util.Random;

/** FAULTS of a LAND (promise 3) and of a SAYING (promises 4 to 6); the sign ^ stands ahead of the wrong token. */
final class FaultTest {
    private static final String P = "places 2;";
    private static final String V = P + "thing a weigh 1;verb v 1;verb w 0;";
    private static final String[] RESERVED = {"places", "thing", "weigh", "bend", "verb", "week", "silent", "speaker",
        "wants", "bribe", "not", "and", "or"};
    private static final Due DUE = new Due("FaultTest");

    public static void main(String[] args) {
        firstLines();
        things();
        laws();
        weeks();
        speakersAndBribes();
        tooMany();
        sayings();
        deepSayings();
        faultsLeaveAll();
        likeTheModel();
        DUE.end();
    }

    private static int faultDue(String marked, int kind) {
        return kind == 0 ? 0 : kind + 16 * marked.indexOf('^');
    }

    private static void land(String marked, int kind) {
        DUE.is("land of " + marked, Due.land(new OneVerb(), marked.replace("^", "")), faultDue(marked, kind));
    }

    private static void saying(String marked, int kind) {
        OneVerb x = new OneVerb();
        Due.land(x, P + "thing a weigh 1;thing b weigh 2;bend f place;bend g place;bend h place;verb v 1;"
            + "speaker s wants v 1;");
        String text = marked.replace("^", "");
        DUE.is("ask of " + marked, Due.ask(x, text), faultDue(marked, kind));
        DUE.is("say of " + marked, Due.say(x, text), faultDue(marked, kind));
        DUE.is("order of " + marked, Due.order(x, text, 1), faultDue(marked, kind));
    }

    private static void firstLines() {
        land("^", 1);
        land("  \n ^", 1);
        land("^thing a weigh 1;", 1);
        land("^Places 2;", 1);
        land("places^", 1);
        land("places \n ^", 1);
        land("places ^;", 1);
        land("places ^two;", 1);
        land("places ^1;", 4);
        land("places ^5;", 4);
        land("places ^0;", 4);
        land("places ^9999;", 4);
        land("places ^12345;", 1);
        land("places ^00002;", 1);
        land("places 0002;", 0);
        land("places2;", 0);
        land("\nplaces\n3\n;\n", 0);
        land("places 4;", 0);
        land("places 2^", 1);
        land("places 2 ^thing a weigh 1;", 1);
        land(P + "^places 2;", 1);
        land(P + "^;", 1);
        land(P + "^a;", 1);
        land(P + "^2;", 1);
        land(P + "^!", 1);
        land(P + "^things a weigh 1;", 1);
        land(P + "^thinginabox a weigh 1;", 1);
        for (String word : new String[] {"weigh", "silent", "wants", "not", "and", "or"}) {
            land(P + "^" + word + " a;", 1);
        }
    }

    private static void things() {
        land(P + "thing^", 1);
        land(P + "thing ^;", 1);
        land(P + "thing ^5 weigh 1;", 1);
        land(P + "thing ^abcdefghi weigh 1;", 1);
        land(P + "thing abcdefgh weigh 1;", 0);
        for (String word : RESERVED) {
            land(P + "thing ^" + word + " weigh 1;", 1);
        }
        for (String word : new String[] {"first", "second", "light", "heavy", "alike", "place", "weight"}) {
            land(P + "thing " + word + " weigh 1;", 0);
        }
        land(P + "thing a ^1;", 1);
        land(P + "thing a ^weight 1;", 1);
        land(P + "thing a weigh ^;", 1);
        land(P + "thing a weigh ^-1;", 1);
        land(P + "thing a weigh ^100;", 4);
        land(P + "thing a weigh ^10000;", 1);
        land(P + "thing a weigh 99;thing b weigh 0;", 0);
        land(P + "thing a weigh 1^", 1);
        land(P + "thing a weigh 1 ^2;", 1);
        land(P + "thing a weigh 1^x;", 1);
        land(P + "thing a weigh 1;thing ^a weigh 1;", 3);
        land(P + "thing a weigh 1;bend ^a place;", 3);
        land(P + "bend a 1;verb ^a 1;", 3);
        land(P + "verb a 1;speaker ^a wants a 1;", 3);
        land(P + "verb a 1;speaker b wants a 1;thing ^b weigh 1;", 3);
    }

    private static void laws() {
        land(P + "bend b ^;", 1);
        land(P + "bend b ^first;", 1);
        land(P + "verb b ^place;", 1);
        land(P + "verb b ^weight;", 1);
        land(P + "verb b ^b;", 1);
        land(P + "bend b place+weight*2-1<3 and not place=weight or (1);", 0);
        land(P + "verb b first+second*light-heavy<alike;", 0);
        land(P + "verb b 1and 2or 3;", 0);
        land(P + "verb b first<second^<first;", 1);
        land(P + "verb b first=second^<first;", 1);
        land(P + "verb b (first<second)<first;", 0);
        land(P + "verb b first ^second;", 1);
        land(P + "verb b first+^;", 1);
        land(P + "verb b ^-1;", 1);
        land(P + "verb b first*^*1;", 1);
        land(P + "verb b first and ^and 1;", 1);
        land(P + "verb b (first^;", 1);
        land(P + "verb b first^);", 1);
        land(P + "verb b (^);", 1);
        land(P + "verb b not ^;", 1);
        land(P + "verb b ^12345;", 1);
        land(P + "verb b 9999;", 0);
        land(P + "verb b 1^", 1);
        land(P + "verb b 1 ^verb c 1;", 1);
        land(P + "verb b not not not not 1;", 0);
        land(P + "verb b ((((1))));", 0);
        land(P + "verb b not not not not not ^1;", 5);
        land(P + "verb b not not not not not ^not 1;", 5);
        land(P + "verb b not not not not not ^(1);", 5);
        land(P + "verb b not not not not not ^first;", 5);
        land(P + "verb b not not not not not ^place;", 1);
        land(P + "verb b not not not not not ^;", 1);
        land(P + "verb b (((((^1)))));", 5);
        land(P + "verb b ((((1+(^1)))));", 5);
        land(P + "verb b ((((1)+1)))+((((1))))+not not not not 1;", 0);
        land(P + "bend b not(not(not ^1));", 5);
        land(P + "bend b (not(not 1));", 0);
    }

    private static void weeks() {
        land(V + "week ^;", 1);
        land(V + "week ^5;", 1);
        land(V + "week ^u;", 2);
        land(V + "week v ^a;", 2);
        land(V + "week v ^and;", 1);
        land(V + "week ^week;", 1);
        land(V + "week v^", 1);
        land(V + "week v w silent v w silent v;", 0);
        land(V + "week v w silent v w silent v ^v;", 5);
        land(V + "week v w silent v w silent v ^silent;", 5);
        land(V + "week v w silent v w silent v ^u;", 2);
        land(V + "week v w silent v w silent v ^a;", 2);
        land(V + "week v w silent v w silent v ^not;", 1);
        land(V + "week v w silent v w silent v ^1;", 1);
        land(V + "week v;^week w;", 3);
        land(P + "week silent;", 0);
        land(P + "week ^v;verb v 1;", 2);
    }

    private static void speakersAndBribes() {
        land(V + "speaker ^;", 1);
        land(V + "speaker s ^v 1;", 1);
        land(V + "speaker s wants ^;", 1);
        land(V + "speaker s wants ^5;", 1);
        land(V + "speaker s wants ^silent 5;", 1);
        land(V + "speaker s wants ^u 5;", 2);
        land(V + "speaker s wants ^s 5;", 2);
        land(V + "speaker s wants ^a 5;", 2);
        land(V + "speaker s wants v ^;", 1);
        land(V + "speaker s wants v ^w 1;", 1);
        land(V + "speaker s wants v ^100;", 4);
        land(V + "speaker s wants v 99 ^1;", 1);
        land(V + "speaker s wants v 1 ^v 2;", 3);
        land(V + "speaker s wants v 1 w 2 ^v 3;", 3);
        land(V + "speaker s wants v 1 w 2 ^u 3;", 2);
        land(V + "speaker s wants v 1 w ^;", 1);
        land(V + "speaker s wants w 0 v 99;speaker t wants v 1;", 0);
        land(P + "bribe ^;", 1);
        land(P + "bribe ^x;", 1);
        land(P + "bribe ^100;", 4);
        land(P + "bribe 0;", 0);
        land(P + "bribe 99;^bribe 99;", 3);
        land(P + "bribe 9 ^9;", 1);
    }

    private static void tooMany() {
        String five = "thing a weigh 1;thing b weigh 1;thing c weigh 1;thing d weigh 1;thing e weigh 1;";
        land(P + five, 0);
        land(P + five + "^thing f weigh 1;", 5);
        land(P + five + "^thing", 5);
        String three = "bend a 1;bend b 1;bend c 1;";
        land(P + three, 0);
        land(P + three + "^bend a 1;", 5);
        String six = "verb a 1;verb b 1;verb c 1;verb d 1;verb e 1;verb f 1;";
        land(P + six + "speaker s wants a 1 b 2 c 3 d 4 e 5 f 6;", 0);
        land(P + six + "^verb g 1;", 5);
        land(P + six + "speaker s wants a 1 b 2 c 3 d 4 e 5 f 6 ^a 1;", 3);
        land(V + "speaker p wants v 1;speaker q wants v 1;speaker r wants v 1;", 0);
        land(V + "speaker p wants v 1;speaker q wants v 1;speaker r wants v 1;^speaker s wants v 1;", 5);
    }

    private static void sayings() {
        saying("^", 1);
        saying("   ^", 1);
        saying("^;", 1);
        saying("a^", 1);
        saying("a ^;", 1);
        saying("a b^", 1);
        saying("a b \n^", 1);
        saying("a b;", 0);
        saying("a b;\n", 0);
        saying("a b;^;", 1);
        saying("a b; ^a b;", 1);
        saying("^x b;", 2);
        saying("a ^x;", 2);
        saying("^v a;", 2);
        saying("a ^s;", 2);
        saying("^first a;", 2);
        saying("a ^not b;", 1);
        saying("^and;", 1);
        saying("^silent a;", 1);
        saying("a ^5;", 1);
        saying("a ^abcdefghi;", 1);
        saying("a ^B;", 1);
        saying("a b ^a;", 1);
        saying("a b ^= a b;", 1);
        saying("f a b;", 0);
        saying("f f a g h b;", 0);
        saying("f ^;", 1);
        saying("f g ^h a b;", 5);
        saying("f g ^f a b;", 5);
        saying("a f g ^h b;", 5);
        saying("f g ^x a;", 2);
        saying("f g ^v a;", 2);
        saying("f g ^and a;", 1);
        saying("a f^", 1);
        saying("not^;", 1);
        saying("not not a b;", 0);
        saying("a b or^", 1);
        saying("a b or ^;", 1);
        saying("a b and ^or a b;", 1);
        saying("a b or a a and not (b b or b a);", 0);
        saying("(a b^;", 1);
        saying("a b^);", 1);
        saying("(^);", 1);
    }

    private static void deepSayings() {
        saying("not not not not a b;", 0);
        saying("((((a b))));", 0);
        saying("((((a b or a a)) and a b)) or not not not not a b;", 0);
        saying("not not not not not ^a b;", 5);
        saying("not not not not not ^f a b;", 5);
        saying("not not not not not ^not a b;", 5);
        saying("not not not not not ^(a b);", 5);
        saying("not not not not not ^x b;", 2);
        saying("not not not not not ^v b;", 2);
        saying("not not not not not ^and;", 1);
        saying("not not not not not ^;", 1);
        saying("(((((^a b)))));", 5);
        saying("((((a b and (^a b)))));", 5);
        saying("not(not(not ^a b));", 5);
    }

    private static void faultsLeaveAll() {
        OneVerb x = new OneVerb();
        Due.land(x, V);
        Due.say(x, "a a;");
        Due.ask(x, "a a;");
        x.mark(2, false);
        DUE.is("a wrong land", Due.land(x, "places 3;thing"), 1 + 16 * 14);
        DUE.is("a wrong question", Due.ask(x, "b b;"), 2);
        DUE.is("a wrong saying", Due.say(x, "a;"), 1 + 16);
        int[] counts = {2, 1, 0, 2, 0, 0, 0, 1, 0, 1, 0, 1, 1, 0};
        for (int what = 0; what < counts.length; what++) {
            DUE.is("count(" + what + ") behind faults", x.count(what), counts[what]);
        }
        DUE.is("mark(2, true) behind faults", x.mark(2, true), true);
        DUE.is("meant(0) behind faults", x.meant(0), 2);
    }

    /** Random rows of tokens that are nearly lands and nearly sayings, against the plain model. */
    private static void likeTheModel() {
        Random random = new Random(5);
        String lands = "places 3 ; thing a weigh 1 ; bend f place + weight * ( not 2 ) ; thing b weigh 2 ; bend g 1 ; "
            + "verb v first < second and ( light = heavy or alike ) ; verb w 1 ; week v silent w v ; "
            + "speaker p wants v 3 w 4 ; bribe 5 ; thing c weigh 3 ; speaker q wants w 1 ; bend h not not place ; "
            + "verb u not ( not ( first ) ) ; thing d weigh 9 ; thing e weigh 9 ;";
        String sayings = "not ( a f b or g f b a and not ( not c d ) ) and ( e a or h a f f b ) ;";
        for (int i = 0; i < 6000; i++) {
            OneVerb x = new OneVerb();
            Model m = new Model();
            String land = mix(lands, random, random.nextInt(4));
            tell(x, m, land);
            DUE.is("land of " + land, x.land(), m.land());
            for (int j = 0; j < 3; j++) {
                String saying = mix(sayings, random, random.nextInt(4));
                tell(x, m, saying);
                DUE.is("ask of " + saying + " in " + land, x.ask(), m.ask());
            }
        }
    }

    private static void tell(OneVerb x, Model m, String text) {
        for (int at = 0; at < text.length(); at += 8) {
            x.feed(Due.bytes(text, at), 0, 0);
            m.feed(Due.bytes(text, at), 0, 0);
        }
    }

    private static String mix(String text, Random random, int changes) {
        List<String> tokens = new ArrayList<>(List.of(text.split(" ")));
        for (int i = 0; i < changes; i++) {
            int place = random.nextInt(tokens.size());
            int other = random.nextInt(tokens.size());
            switch (random.nextInt(5)) {
                case 0 -> tokens.add(place, tokens.get(other));
                case 1 -> tokens.set(place, tokens.get(other));
                case 2 -> tokens.remove(place);
                case 3 -> {
                    int end = Math.min(other + 4, tokens.size());
                    tokens.addAll(place, new ArrayList<>(tokens.subList(other, end)));
                }
                default -> tokens.set(place, RESERVED[random.nextInt(RESERVED.length)]);
            }
        }
        return String.join(random.nextInt(9) == 0 ? "" : " ", tokens);
    }
}
