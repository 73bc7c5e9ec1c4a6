import java.util.NoSuchElementException;

/** What the questions of the face answer, as one text: some 150 calls, none of which may change anything. */
final class Look {
    private final OneVerb x;
    private final StringBuilder all = new StringBuilder();

    private Look(OneVerb x) {
        this.x = x;
    }

    static String at(OneVerb x) {
        Look look = new Look(x);
        look.told();
        look.kept();
        look.meant();
        look.searched();
        look.others();
        return look.all.toString();
    }

    /** The same, less what can be undone: a MARK that is gone back to leaves nothing of that. */
    static String butUndo(OneVerb x) {
        return at(x).replaceFirst("undone=\\d+", "undone=?");
    }

    private void add(String name, int... answers) {
        all.append(name).append('=');
        for (int i = 0; i < answers.length; i++) {
            all.append(i == 0 ? "" : ",").append(answers[i]);
        }
        all.append(' ');
    }

    private void told() {
        for (int what = 0; what < 14; what++) {
            add(what == 11 ? "undone" : "count" + what, x.count(what));
        }
        int things = x.count(1);
        for (int thing = 0; thing < things; thing++) {
            add("thing", x.thing(thing));
        }
        int today = x.count(6);
        for (int ahead = 0; ahead < 7; ahead++) {
            add("verb", x.verb(today + ahead));
        }
    }

    private void kept() {
        int said = x.count(7);
        for (int i = 0; i < said; i++) {
            add("saying", x.saying(i, 0), x.saying(i, 1));
        }
        int orders = x.count(8);
        for (int i = 0; i < orders; i++) {
            add("ordered", x.ordered(i, 0), x.ordered(i, 1), x.ordered(i, 2), x.ordered(i, 3));
        }
        int worlds = x.worlds(0);
        add("worlds", worlds, x.worlds(1));
        for (int world = 0; world < Math.min(worlds, 16); world++) {
            add("left", x.left(world));
        }
        add("clash", x.clash());
    }

    private void meant() {
        int today = x.count(6);
        for (int ahead = 0; ahead < 7; ahead++) {
            add("meant", x.meant(today + ahead));
        }
        add("same", x.same(today, today + 1));
        add("asked", x.asked());
        int things = x.count(1);
        int places = x.count(0);
        for (int thing = 0; thing < things; thing++) {
            for (int place = 0; place < places; place++) {
                add("sure", x.sure(thing, place), x.sayable(thing, place));
            }
        }
    }

    private void searched() {
        int today = x.count(6);
        for (int what = 0; what < 4; what++) {
            add("shortest", x.shortest(today + 1, what));
        }
        for (int what = 0; what < 3; what++) {
            add("two", x.two(today, what));
        }
        for (int ahead = 0; ahead < 7; ahead++) {
            add("riddle", x.riddle(ahead));
        }
    }

    private void others() {
        for (int digits = 0; digits < 3; digits++) {
            add("rings", rings(digits));
        }
        for (int i = -1; i < 4; i++) {
            add("rests", x.rests(i));
        }
        add("cover", x.cover(0), x.cover(1));
        add("knows", x.knows());
        add("tells", x.tells(0), x.tells(1));
        add("year", x.year(7, 20, 0), x.year(7, 20, 1), x.year(7, 20, 2));
    }

    private int rings(int digits) {
        try {
            return x.rings(digits);
        } catch (NoSuchElementException e) {
            return -99;
        }
    }
}
