import java.util.ArrayList;
import java.util.List;

/**
 * Every refusal of the document: its answer, which one comes first of several, and that nothing has
 * changed behind it. Each refused call is made on one of two like objects; then all that the two tell
 * is held side by side, what they tell behind restore() too. No object gets more than 512 calls,
 * but for the one that has had 999 Sundays.
 */
public final class RefusalTest {
    private static final int NONE = -1, UNKNOWN = -101, OUTSIDE = -102, STATE = -103, FULL = -104;
    private static final int MIN = Integer.MIN_VALUE, MAX = Integer.MAX_VALUE;
    private static final int PEOPLE = 4, WRONGS = 5;
    private static int failures = 0;

    private interface Call {
        long on(LastBench x);
    }

    /** The states in which calls are refused. */
    private enum Scene {
        NEW, SPELT, CHAPEL, PAGE_FULL, SEEN_FULL, ALL_FORGIVEN, LEFT_TWENTY_TIMES, OTHER_CHAPEL;

        LastBench make() {
            LastBench x = new LastBench();
            switch (this) {
                case NEW:
                    break;
                case SPELT:
                    spell(x, "1;p3");
                    break;
                case OTHER_CHAPEL:
                    busy(x);
                    x.blank();
                    spell(x, "1;p0,g1,h2,b3;012,125,236,307,201");
                    x.chapel();
                    break;
                default:
                    busy(x);
                    goOn(x);
            }
            return x;
        }

        private void goOn(LastBench x) {
            if (this == PAGE_FULL) {
                for (int n = x.count(10); n < 54; n++) {
                    x.letter('p');
                }
            } else if (this == SEEN_FULL) {
                for (int n = x.count(9); n < 6; n++) {
                    x.see(2, 3, true);
                }
            } else if (this == ALL_FORGIVEN) {
                for (int wrong = 0; wrong < WRONGS; wrong++) {
                    x.forgive(wrong);
                }
            } else if (this == LEFT_TWENTY_TIMES) {
                for (int n = 0; n < 20; n++) {
                    x.leave(1, 0);
                }
            }
        }
    }

    public static void main(String[] args) {
        letter();
        chapel();
        person();
        as();
        wrong();
        to();
        sunday();
        forgive();
        again();
        room();
        change();
        leave();
        ring();
        peace();
        odds();
        see();
        winters();
        imageAndRestore();
        count();
        allAtOnce();
        System.out.println(failures == 0 ? "all refusals are as due" : failures + " refusals are not as due");
        if (failures != 0) {
            System.exit(1);
        }
    }

    private static void due(String call, long got, long want) {
        if (got != want) {
            failures++;
            System.out.println(call + " answered " + got + ", due is " + want);
        }
    }

    private static void spell(LastBench x, String text) {
        for (int i = 0; i < text.length(); i++) {
            x.letter(text.charAt(i));
        }
    }

    /** A chapel where everything has happened, with an image that is not what is now. */
    private static void busy(LastBench x) {
        spell(x, "2;p0,g4,h1,b9;015,103,237,312,124");
        x.chapel();
        x.sunday();
        x.forgive(1);
        x.see(0, 2, true);
        x.image();
        x.room(3);
        x.change(3, 4, 7);
        x.again(2, 1);
        x.forgive(0);
        x.sunday();
        x.see(1, 1, false);
        spell(x, "1;p");
    }

    /** The numbers next to those that are taken, the farthest, and those that would be taken if high bits fell off. */
    private static int[] beside(int least, int most) {
        return new int[] {least - 1, most + 1, MIN, MAX, -2, least + 256, most + 65536, most - 256, least + MIN};
    }

    private static int[] besideAnyInt(int least) {
        return new int[] {least - 1, least - 2, MIN, MIN + 1, -65536};
    }

    private static void refused(Scene scene, String call, Call made, int want) {
        LastBench x = scene.make();
        LastBench y = scene.make();
        due(scene + ": " + call, made.on(x), want);
        same(scene + ": behind " + call, all(x), all(y));
        due(scene + ": restore behind " + call, x.restore(), y.restore());
        same(scene + ": restored behind " + call, all(x), all(y));
        due(scene + ": leave behind " + call, x.leave(3, 2), y.leave(3, 2));
        due(scene + ": blank behind " + call, x.blank(), y.blank());
        due(scene + ": digest at last behind " + call, x.digest(), y.digest());
    }

    private static void same(String when, List<Long> got, List<Long> want) {
        if (!got.equals(want)) {
            failures++;
            System.out.println(when + " it is not as it was: " + got + ", before " + want);
        }
    }

    /** What an object tells without being changed by it. */
    private static List<Long> all(LastBench x) {
        List<Long> told = new ArrayList<>();
        for (int what = 0; what <= 12; what++) {
            told.add((long) x.count(what));
        }
        told.add((long) x.fault());
        for (int p = 0; p < x.count(0); p++) {
            for (int what = 0; what <= 5; what++) {
                told.add((long) x.person(p, what));
            }
            told.add((long) x.odds(p, 3, 0));
            told.add((long) x.to(p, (p + 2) % PEOPLE));
        }
        for (int w = 0; w < x.count(1); w++) {
            for (int what = 0; what <= 5; what++) {
                told.add((long) x.wrong(w, what));
            }
        }
        told.add((long) x.winters(60, 5, 0));
        told.add((long) x.winters(7, 5, 1));
        told.add(x.digest());
        return told;
    }

    private static void letter() {
        for (int code : beside(1, 126)) {
            for (Scene scene : Scene.values()) {
                refused(scene, "letter(" + code + ")", x -> x.letter(code), OUTSIDE);
            }
        }
        for (int code : new int[] {1, 64, 126}) {
            refused(Scene.PAGE_FULL, "letter(" + code + ")", x -> x.letter(code), FULL);
        }
    }

    private static void chapel() {
        for (Scene scene : Scene.values()) {
            refused(scene, "chapel()", LastBench::chapel, STATE);
        }
        for (String text : new String[] {"", "0", "6;", "6;p1", "6;p1,p1", "6;p1,p1;", "6;p1,p1;01", "6;p1,p1;010", "6;p1,p1;111",
            "6;p1,p1;021", "6;p1,p1;011,", "6;p1,p1;011;", "6;p1,p1;0111", "0;p1,p1;011", "7;p1,p1;011", "6;p1;011", "6;x1,p1;011",
            "6;p1,p1;011,012,013,014,015,016,017,018,019", "6;p1,p1,p1,p1,p1,p1,p1;011", "6;p1,p1;011 "}) {
            for (Scene scene : new Scene[] {Scene.NEW, Scene.CHAPEL}) {
                refusedText(scene, text);
            }
        }
    }

    private static void refusedText(Scene scene, String text) {
        LastBench x = scene.make();
        LastBench y = scene.make();
        for (LastBench each : new LastBench[] {x, y}) {
            each.blank();
            spell(each, text);
        }
        due(scene + ": chapel of '" + text + "'", x.chapel(), STATE);
        same(scene + ": behind chapel of '" + text + "'", all(x), all(y));
        due(scene + ": restore behind chapel of '" + text + "'", x.restore(), y.restore());
        same(scene + ": restored behind chapel of '" + text + "'", all(x), all(y));
    }

    private static void person() {
        for (int what : new int[] {0, 5, -1, 6, MIN, MAX}) {
            for (int person : beside(0, PEOPLE - 1)) {
                refused(Scene.CHAPEL, "person(" + person + ", " + what + ")", x -> x.person(person, what), UNKNOWN);
            }
            refused(Scene.NEW, "person(0, " + what + ")", x -> x.person(0, what), UNKNOWN);
            refused(Scene.SPELT, "person(0, " + what + ")", x -> x.person(0, what), UNKNOWN);
        }
        for (int what : beside(0, 5)) {
            refused(Scene.CHAPEL, "person(0, " + what + ")", x -> x.person(0, what), OUTSIDE);
            refused(Scene.CHAPEL, "person(3, " + what + ")", x -> x.person(3, what), OUTSIDE);
        }
    }

    private static void as() {
        for (int kind : new int[] {0, 4, -1, 5, MIN, MAX}) {
            for (int person : beside(0, PEOPLE - 1)) {
                refused(Scene.CHAPEL, "as(" + person + ", " + kind + ")", x -> x.as(person, kind), UNKNOWN);
            }
            refused(Scene.NEW, "as(0, " + kind + ")", x -> x.as(0, kind), UNKNOWN);
        }
        for (int kind : beside(0, 4)) {
            refused(Scene.CHAPEL, "as(0, " + kind + ")", x -> x.as(0, kind), OUTSIDE);
            refused(Scene.CHAPEL, "as(3, " + kind + ")", x -> x.as(3, kind), OUTSIDE);
        }
        refused(Scene.CHAPEL, "as(0, 1), the cast fails", x -> x.as(0, 1), NONE);
    }

    private static void wrong() {
        for (int what : new int[] {0, 5, -1, 6, MIN, MAX}) {
            for (int wrong : beside(0, WRONGS - 1)) {
                refused(Scene.CHAPEL, "wrong(" + wrong + ", " + what + ")", x -> x.wrong(wrong, what), UNKNOWN);
            }
            refused(Scene.NEW, "wrong(0, " + what + ")", x -> x.wrong(0, what), UNKNOWN);
        }
        for (int what : beside(0, 5)) {
            refused(Scene.CHAPEL, "wrong(0, " + what + ")", x -> x.wrong(0, what), OUTSIDE);
            refused(Scene.CHAPEL, "wrong(4, " + what + ")", x -> x.wrong(4, what), OUTSIDE);
        }
    }

    private static void to() {
        for (int person : beside(0, PEOPLE - 1)) {
            refused(Scene.CHAPEL, "to(" + person + ", 0)", x -> x.to(person, 0), UNKNOWN);
            refused(Scene.CHAPEL, "to(3, " + person + ")", x -> x.to(3, person), UNKNOWN);
            refused(Scene.CHAPEL, "to(" + person + ", " + person + ")", x -> x.to(person, person), UNKNOWN);
        }
        for (int person = 0; person < PEOPLE; person++) {
            int same = person;
            refused(Scene.CHAPEL, "to(" + same + ", " + same + ")", x -> x.to(same, same), UNKNOWN);
        }
        refused(Scene.NEW, "to(0, 1)", x -> x.to(0, 1), UNKNOWN);
        refused(Scene.NEW, "to(1, 1)", x -> x.to(1, 1), UNKNOWN);
    }

    private static void sunday() {
        refused(Scene.NEW, "sunday()", LastBench::sunday, STATE);
        refused(Scene.SPELT, "sunday()", LastBench::sunday, STATE);
        // 999 Sundays are more than an object's 512 calls; the limit is the document's all the same.
        LastBench x = Scene.CHAPEL.make();
        for (int n = 3; n <= 999; n++) {
            due("sunday " + n + " is taken", x.sunday() >= 0 ? 1 : 0, 1);
        }
        List<Long> before = all(x);
        due("sunday behind 999", x.sunday(), FULL);
        same("behind the 1000th sunday", all(x), before);
        due("winters behind 999 are only as they would be", x.winters(1, 0, 2), 12345);
        due("restore behind 999", x.restore(), 1);
        due("a sunday behind that", x.sunday() >= 0 ? 1 : 0, 1);
    }

    private static void forgive() {
        for (int wrong : beside(0, WRONGS - 1)) {
            refused(Scene.CHAPEL, "forgive(" + wrong + ")", x -> x.forgive(wrong), UNKNOWN);
            refused(Scene.ALL_FORGIVEN, "forgive(" + wrong + ")", x -> x.forgive(wrong), UNKNOWN);
        }
        for (int wrong : new int[] {31, 32, 33, 64, -32}) {
            refused(Scene.CHAPEL, "forgive(" + wrong + ")", x -> x.forgive(wrong), UNKNOWN);
        }
        refused(Scene.NEW, "forgive(0)", x -> x.forgive(0), UNKNOWN);
        refused(Scene.CHAPEL, "forgive(0)", x -> x.forgive(0), STATE);
        for (int wrong = 0; wrong < WRONGS; wrong++) {
            int each = wrong;
            refused(Scene.ALL_FORGIVEN, "forgive(" + each + ")", x -> x.forgive(each), STATE);
        }
    }

    private static void again() {
        for (int grave : new int[] {1, 9, 0, 10, MIN}) {
            for (int wrong : beside(0, WRONGS - 1)) {
                refused(Scene.CHAPEL, "again(" + wrong + ", " + grave + ")", x -> x.again(wrong, grave), UNKNOWN);
            }
            refused(Scene.NEW, "again(0, " + grave + ")", x -> x.again(0, grave), UNKNOWN);
        }
        for (int grave : beside(1, 9)) {
            refused(Scene.CHAPEL, "again(0, " + grave + ")", x -> x.again(0, grave), OUTSIDE);
            refused(Scene.ALL_FORGIVEN, "again(4, " + grave + ")", x -> x.again(4, grave), OUTSIDE);
        }
    }

    private static void room() {
        for (int room : beside(1, 6)) {
            refused(Scene.NEW, "room(" + room + ")", x -> x.room(room), OUTSIDE);
            refused(Scene.CHAPEL, "room(" + room + ")", x -> x.room(room), OUTSIDE);
        }
        for (int room = 1; room <= 6; room++) {
            int each = room;
            refused(Scene.NEW, "room(" + each + ")", x -> x.room(each), STATE);
            refused(Scene.SPELT, "room(" + each + ")", x -> x.room(each), STATE);
        }
    }

    private static void change() {
        for (int person : beside(0, PEOPLE - 1)) {
            refused(Scene.CHAPEL, "change(" + person + ", 0, 0)", x -> x.change(person, 0, 0), UNKNOWN);
            refused(Scene.CHAPEL, "change(" + person + ", 5, 21)", x -> x.change(person, 5, 21), UNKNOWN);
        }
        refused(Scene.NEW, "change(0, 0, 0)", x -> x.change(0, 0, 0), UNKNOWN);
        refused(Scene.NEW, "change(0, 5, 21)", x -> x.change(0, 5, 21), UNKNOWN);
        for (int kind : beside(0, 4)) {
            refused(Scene.CHAPEL, "change(0, " + kind + ", 5)", x -> x.change(0, kind, 5), OUTSIDE);
            refused(Scene.CHAPEL, "change(3, " + kind + ", 21)", x -> x.change(3, kind, 21), OUTSIDE);
        }
        for (int warm : beside(0, 20)) {
            refused(Scene.CHAPEL, "change(0, 3, " + warm + ")", x -> x.change(0, 3, warm), OUTSIDE);
            refused(Scene.CHAPEL, "change(3, 0, " + warm + ")", x -> x.change(3, 0, warm), OUTSIDE);
        }
    }

    private static void leave() {
        for (Scene scene : new Scene[] {Scene.NEW, Scene.CHAPEL, Scene.LEFT_TWENTY_TIMES}) {
            for (int sundays : beside(1, 6)) {
                refused(scene, "leave(" + sundays + ", 0)", x -> x.leave(sundays, 0), OUTSIDE);
                refused(scene, "leave(" + sundays + ", 3)", x -> x.leave(sundays, 3), OUTSIDE);
            }
            for (int what : beside(0, 2)) {
                refused(scene, "leave(1, " + what + ")", x -> x.leave(1, what), OUTSIDE);
                refused(scene, "leave(6, " + what + ")", x -> x.leave(6, what), OUTSIDE);
            }
        }
        for (Scene scene : new Scene[] {Scene.NEW, Scene.SPELT, Scene.LEFT_TWENTY_TIMES}) {
            for (int what = 0; what <= 2; what++) {
                int each = what;
                refused(scene, "leave(1, " + each + ")", x -> x.leave(1, each), STATE);
                refused(scene, "leave(6, " + each + ")", x -> x.leave(6, each), STATE);
            }
        }
    }

    private static void ring() {
        refused(Scene.NEW, "ring()", LastBench::ring, STATE);
        refused(Scene.SPELT, "ring()", LastBench::ring, STATE);
    }

    private static void peace() {
        for (int what : beside(0, 1)) {
            refused(Scene.NEW, "peace(" + what + ")", x -> x.peace(what), OUTSIDE);
            refused(Scene.CHAPEL, "peace(" + what + ")", x -> x.peace(what), OUTSIDE);
        }
        for (int what = 0; what <= 1; what++) {
            int each = what;
            refused(Scene.NEW, "peace(" + each + ")", x -> x.peace(each), STATE);
            refused(Scene.SPELT, "peace(" + each + ")", x -> x.peace(each), STATE);
        }
    }

    private static void odds() {
        for (int person : beside(0, PEOPLE - 1)) {
            refused(Scene.CHAPEL, "odds(" + person + ", 0, 0)", x -> x.odds(person, 0, 0), UNKNOWN);
            refused(Scene.CHAPEL, "odds(" + person + ", 11, 2)", x -> x.odds(person, 11, 2), UNKNOWN);
        }
        refused(Scene.NEW, "odds(0, 5, 0)", x -> x.odds(0, 5, 0), UNKNOWN);
        refused(Scene.NEW, "odds(0, 11, 2)", x -> x.odds(0, 11, 2), UNKNOWN);
        for (int tenths : beside(0, 10)) {
            refused(Scene.CHAPEL, "odds(0, " + tenths + ", 0)", x -> x.odds(0, tenths, 0), OUTSIDE);
            refused(Scene.CHAPEL, "odds(3, " + tenths + ", 1)", x -> x.odds(3, tenths, 1), OUTSIDE);
        }
        for (int what : beside(0, 1)) {
            refused(Scene.CHAPEL, "odds(0, 0, " + what + ")", x -> x.odds(0, 0, what), OUTSIDE);
            refused(Scene.CHAPEL, "odds(3, 10, " + what + ")", x -> x.odds(3, 10, what), OUTSIDE);
        }
    }

    private static void see() {
        for (Scene scene : new Scene[] {Scene.CHAPEL, Scene.SEEN_FULL}) {
            for (int wrong : beside(0, WRONGS - 1)) {
                refused(scene, "see(" + wrong + ", 1, true)", x -> x.see(wrong, 1, true), UNKNOWN);
                refused(scene, "see(" + wrong + ", 7, false)", x -> x.see(wrong, 7, false), UNKNOWN);
            }
            for (int room : beside(1, 6)) {
                refused(scene, "see(0, " + room + ", true)", x -> x.see(0, room, true), OUTSIDE);
                refused(scene, "see(4, " + room + ", false)", x -> x.see(4, room, false), OUTSIDE);
            }
        }
        refused(Scene.NEW, "see(0, 1, true)", x -> x.see(0, 1, true), UNKNOWN);
        refused(Scene.NEW, "see(0, 0, false)", x -> x.see(0, 0, false), UNKNOWN);
        for (int wrong = 0; wrong < WRONGS; wrong++) {
            int each = wrong;
            refused(Scene.SEEN_FULL, "see(" + each + ", 1, true)", x -> x.see(each, 1, true), FULL);
            refused(Scene.SEEN_FULL, "see(" + each + ", 6, false)", x -> x.see(each, 6, false), FULL);
        }
    }

    private static void winters() {
        for (Scene scene : new Scene[] {Scene.NEW, Scene.CHAPEL}) {
            for (int sundays : beside(1, 60)) {
                refused(scene, "winters(" + sundays + ", 0, 0)", x -> x.winters(sundays, 0, 0), OUTSIDE);
            }
            for (int seed : besideAnyInt(0)) {
                refused(scene, "winters(1, " + seed + ", 0)", x -> x.winters(1, seed, 0), OUTSIDE);
                refused(scene, "winters(60, " + seed + ", 2)", x -> x.winters(60, seed, 2), OUTSIDE);
            }
            for (int what : beside(0, 2)) {
                refused(scene, "winters(60, 9, " + what + ")", x -> x.winters(60, 9, what), OUTSIDE);
            }
        }
        for (int what = 0; what <= 2; what++) {
            int each = what;
            refused(Scene.NEW, "winters(1, 0, " + each + ")", x -> x.winters(1, 0, each), STATE);
            refused(Scene.SPELT, "winters(60, " + MAX + ", " + each + ")", x -> x.winters(60, MAX, each), STATE);
        }
    }

    private static void imageAndRestore() {
        refused(Scene.NEW, "image()", LastBench::image, STATE);
        refused(Scene.SPELT, "image()", LastBench::image, STATE);
        refused(Scene.NEW, "restore()", LastBench::restore, STATE);
        refused(Scene.SPELT, "restore()", LastBench::restore, STATE);
        refused(Scene.OTHER_CHAPEL, "restore()", LastBench::restore, STATE);
    }

    private static void count() {
        for (int what : beside(0, 12)) {
            for (Scene scene : Scene.values()) {
                refused(scene, "count(" + what + ")", x -> x.count(what), OUTSIDE);
            }
        }
    }

    /** All refusals of a busy chapel, one behind the other on one object. */
    private static void allAtOnce() {
        LastBench x = Scene.CHAPEL.make();
        LastBench y = Scene.CHAPEL.make();
        long[] answers = {
            x.letter(0), x.letter(127), x.chapel(), x.person(4, 0), x.person(0, 6), x.as(4, 0), x.as(0, 5), x.wrong(5, 0), x.wrong(0, 6),
            x.to(0, 0), x.forgive(0), x.forgive(5), x.again(5, 1), x.again(0, 0), x.room(0), x.room(7), x.change(4, 0, 0), x.change(0, 5, 0),
            x.change(0, 0, 21), x.leave(0, 0), x.leave(1, 3), x.peace(2), x.odds(4, 0, 0), x.odds(0, 11, 0), x.odds(0, 0, 2),
            x.see(5, 1, true), x.see(0, 7, true), x.winters(61, 0, 0), x.winters(1, -1, 0), x.winters(1, 0, 3), x.count(13)};
        for (int n = 0; n < answers.length; n++) {
            due("refusal " + n + " is one", answers[n] <= UNKNOWN && answers[n] >= FULL ? 1 : 0, 1);
        }
        same("behind all refusals", all(x), all(y));
        due("restore behind all refusals", x.restore(), y.restore());
        same("restored behind all refusals", all(x), all(y));
    }
}
