/** One method a promise of the document: ordinary inputs, the edges that it names, wrong inputs. */
public final class PromiseTest {
    private static final int NONE = -1, UNKNOWN = -101, OUTSIDE = -102, STATE = -103, FULL = -104;
    private static final int MIN = Integer.MIN_VALUE, MAX = Integer.MAX_VALUE;
    private static int failures = 0;

    public static void main(String[] args) {
        promise1NewObject();
        promise2Letter();
        promise3Blank();
        promise4Fault();
        promise5Chapel();
        promise6Person();
        promise6Sits();
        promise7As();
        promise8Wrong();
        promise8Graves();
        promise8Look();
        promise9To();
        promise10Sunday();
        promise11Forgive();
        promise12Again();
        promise13Room();
        promise14Change();
        promise15Leave();
        promise15LeaveTwentyTimes();
        promise16Ring();
        promise17Peace();
        promise18Odds();
        promise19See();
        promise20Forget();
        promise21Winters();
        promise22Image();
        promise23Restore();
        promise24Count();
        promise25Digest();
        refusalsChangeNothing();
        System.out.println(failures == 0 ? "all promises hold" : failures + " answers are not as due");
        if (failures != 0) {
            System.exit(1);
        }
    }

    private static void due(String call, long got, long want) {
        if (got != want) {
            failures++;
            System.out.println(call + " answered " + got + ", due is " + want);
        }
    }

    private static void spell(LastBench x, String text) {
        for (int i = 0; i < text.length(); i++) {
            x.letter(text.charAt(i));
        }
    }

    private static LastBench read(String text) {
        LastBench x = new LastBench();
        spell(x, text);
        due("fault of " + text, x.fault(), text.length());
        int people = text.split(";")[1].split(",").length;
        due("chapel of " + text, x.chapel(), people);
        return x;
    }

    private static void promise1NewObject() {
        LastBench x = new LastBench();
        for (int what = 0; what <= 12; what++) {
            due("1: count(" + what + ")", x.count(what), 0);
        }
        due("1: person", x.person(0, 0), UNKNOWN);
        due("1: as", x.as(0, 0), UNKNOWN);
        due("1: wrong", x.wrong(0, 0), UNKNOWN);
        due("1: to", x.to(0, 1), UNKNOWN);
        due("1: forgive", x.forgive(0), UNKNOWN);
        due("1: again", x.again(0, 1), UNKNOWN);
        due("1: change", x.change(0, 0, 0), UNKNOWN);
        due("1: odds", x.odds(0, 0, 0), UNKNOWN);
        due("1: see", x.see(0, 1, true), UNKNOWN);
        due("1: chapel", x.chapel(), STATE);
        due("1: sunday", x.sunday(), STATE);
        due("1: room", x.room(1), STATE);
        due("1: leave", x.leave(1, 0), STATE);
        due("1: ring", x.ring(), STATE);
        due("1: peace", x.peace(0), STATE);
        due("1: winters", x.winters(1, 0, 0), STATE);
        due("1: image", x.image(), STATE);
        due("1: restore", x.restore(), STATE);
        due("1: blank", x.blank(), 0);
        due("1: fault", x.fault(), 0);
        due("1: forget", x.forget(), 0);
    }

    private static void promise2Letter() {
        LastBench x = new LastBench();
        for (int code : new int[] {0, -1, 127, 128, 256 + 49, MIN, MAX}) {
            due("2: letter(" + code + ")", x.letter(code), OUTSIDE);
        }
        due("2: letter(1)", x.letter(1), 1);
        due("2: letter(126)", x.letter(126), 2);
        for (int n = 3; n <= 54; n++) {
            due("2: letter " + n, x.letter(64), n);
        }
        due("2: the 55th", x.letter(64), FULL);
        due("2: the 55th, and it is outside", x.letter(127), OUTSIDE);
        due("2: how many", x.count(10), 54);
        x.blank();
        due("2: behind blank", x.letter(64), 1);
    }

    private static void promise3Blank() {
        LastBench x = new LastBench();
        spell(x, "2;p1");
        due("3: blank", x.blank(), 4);
        due("3: blank again", x.blank(), 0);
        due("3: letters", x.count(10), 0);
        spell(x, "3;p1,p2;011");
        due("3: what was there is gone", x.chapel(), 2);
        due("3: room", x.count(2), 3);
    }

    private static void promise4Fault() {
        faultAt("", 0);
        faultAt("0", 0);
        faultAt("7", 0);
        faultAt("6", 1);
        faultAt("1,", 1);
        faultAt("12", 1);
        faultAt("1;P", 2);
        faultAt("1;x", 2);
        faultAt("1;s", 3);
        faultAt("1;pp", 3);
        faultAt("1;p10", 4);
        faultAt("1;p1;", 4);
        faultAt("1;p1,", 5);
        faultAt("1;p1,g0,h2,b3,s9,p5", 19);
        faultAt("1;p1,g0,h2,b3,s9,p5,", 19);
        faultAt("1;p1,g0,h2,b3,s9,p5;", 20);
        faultAt("1;p1,g0;2", 8);
        faultAt("1;p1,g0;12", 9);
        faultAt("1;p1,g0;11", 9);
        faultAt("1;p1,g0;00", 9);
        faultAt("1;p1,g0;010", 10);
        faultAt("1;p1,g0;019", 11);
        faultAt("1;p1,g0;0199", 11);
        faultAt("1;p1,g0;019;", 11);
        faultAt("1;p1,g0;019,", 12);
        faultAt("1;p1,g0;011,012,013,014,015,016,017,108", 39);
        faultAt("1;p1,g0;011,012,013,014,015,016,017,108,", 39);
        faultAt(" 1;p1,g0;019", 0);
        faultAt("1;p1,g0;01/", 10);
        faultAt("1;p1,g0;01:", 10);
    }

    private static void faultAt(String text, int place) {
        LastBench x = new LastBench();
        spell(x, text);
        due("4: fault of '" + text + "'", x.fault(), place);
        due("4: fault once more of '" + text + "'", x.fault(), place);
        due("4: letters of '" + text + "'", x.count(10), text.length());
    }

    private static void promise5Chapel() {
        LastBench x = new LastBench();
        for (String text : new String[] {"1", "1;p1,p1", "1;p1,p1;", "1;p1,p1;01", "1;p1,p1;011,", "1;p1,p1;0111"}) {
            x.blank();
            spell(x, text);
            due("5: chapel of '" + text + "'", x.chapel(), STATE);
            due("5: the page stays", x.count(10), text.length());
        }
        due("5: none was read", x.count(11), 0);
        x.blank();
        spell(x, "2;p4,g7,h2,b0,s5,p9;014,125,236,343,451,508,203,316");
        due("5: chapel", x.chapel(), 6);
        due("5: the page is empty", x.count(10), 0);
        due("5: kind", x.person(4, 0), 4);
        due("5: grave", x.wrong(7, 2), 6);
        x.sunday();
        x.forgive(0);
        x.see(0, 1, true);
        x.image();
        spell(x, "1;b0,p1;101");
        due("5: another", x.chapel(), 2);
        due("5: wrongs", x.count(1), 1);
        due("5: room", x.count(2), 1);
        due("5: warm", x.person(0, 1), 0);
        due("5: nothing forgiven", x.count(6), 0);
        due("5: no sunday", x.count(7), 0);
        due("5: none froze", x.count(8), 0);
        due("5: nothing seen", x.count(9), 0);
        due("5: read twice", x.count(11), 2);
        due("5: the image is gone", x.restore(), STATE);
    }

    private static void promise6Person() {
        LastBench x = read("6;p4,g7,h2,b0,s5,p9;017,127,234,345,459,308");
        int[][] told = {
            {0, 4, 7, 1, 0, 1 << 3},
            {1, 7, 3, 1, 0, 1 << 0},
            {2, 2, 4, 1, 0, 1 << 1},
            {3, 0, 13, 1, 0, 1 << 2},
            {4, 5, 0, 0, 0, 1 << 3},
            {0, 9, 0, 0, 0, 1 << 4}};
        for (int person = 0; person < 6; person++) {
            for (int what = 0; what <= 5; what++) {
                due("6: person(" + person + ", " + what + ")", x.person(person, what), told[person][what]);
            }
        }
        x.forgive(2);
        due("6: a holder keeps 1 for each forgiven", x.person(2, 2), 1);
        due("6: no grudge for what is forgiven", x.person(3, 5), 0);
        x.forgive(3);
        due("6: a baby, one left", x.person(3, 2), 8);
        x.forgive(5);
        due("6: a baby has 1 at least", x.person(3, 2), 1);
        due("6: no grudge any more", x.person(0, 5), 0);
        x.forgive(1);
        due("6: a good one", x.person(1, 2), 0);
        due("6: who has no guilt does not sit", x.person(1, 3), 0);
        x.again(1, 1);
        due("6: half of 1", x.person(1, 2), 0);
        due("6: six", x.person(6, 0), UNKNOWN);
        due("6: below", x.person(-1, 9), UNKNOWN);
        due("6: least", x.person(MIN, 0), UNKNOWN);
        due("6: most", x.person(MAX, 0), UNKNOWN);
        due("6: what 6", x.person(0, 6), OUTSIDE);
        due("6: what -1", x.person(5, -1), OUTSIDE);
    }

    private static void promise6Sits() {
        LastBench x = read("2;p4,p7,p2,p0;014,125,234,304");
        int[] bySeat = {1, 0, 2, 3};
        for (int room = 1; room <= 6; room++) {
            x.room(room);
            for (int seat = 0; seat < 4; seat++) {
                due("6: room " + room + ", seat " + seat, x.person(bySeat[seat], 3), seat < room ? 1 : 0);
            }
        }
        x = read("1;h4,g9,b1;015,023,108");
        due("6: a holder has both", x.person(0, 2), 8);
        due("6: he sits", x.person(0, 3), 1);
        x.forgive(0);
        due("6: a holder with one forgiven", x.person(0, 2), 4);
        due("6: of like ones the least sits", x.person(0, 3), 1);
        due("6: of like ones the other does not", x.person(1, 3), 0);
        x.forgive(1);
        due("6: a holder with two forgiven", x.person(0, 2), 2);
        due("6: then the good one sits", x.person(1, 3), 1);
    }

    private static void promise7As() {
        LastBench x = read("1;p1,g1,h1,b1,s1;011");
        for (int person = 0; person < 5; person++) {
            for (int kind = 0; kind <= 4; kind++) {
                boolean such = kind == 0 || kind == person || person == 4 && kind == 1;
                due("7: as(" + person + ", " + kind + ")", x.as(person, kind), such ? person : NONE);
            }
        }
        due("7: unknown", x.as(5, 0), UNKNOWN);
        due("7: unknown comes first", x.as(-1, 5), UNKNOWN);
        due("7: kind 5", x.as(0, 5), OUTSIDE);
        due("7: kind -1", x.as(0, -1), OUTSIDE);
        due("7: kind least", x.as(4, MIN), OUTSIDE);
        x.change(0, 4, 3);
        due("7: changed to a saint", x.as(0, 1), 0);
    }

    private static void promise8Wrong() {
        LastBench x = read("1;p1,p1,p1;015,204");
        due("8: did", x.wrong(1, 0), 2);
        due("8: whom", x.wrong(1, 1), 0);
        due("8: grave", x.wrong(1, 2), 4);
        due("8: forgiven", x.wrong(1, 3), 0);
        x.forgive(1);
        due("8: forgiven then", x.wrong(1, 3), 1);
        due("8: the other is not", x.wrong(0, 3), 0);
        due("8: grave still", x.wrong(1, 2), 4);
        due("8: two", x.wrong(2, 0), UNKNOWN);
        due("8: below", x.wrong(-1, 7), UNKNOWN);
        due("8: most", x.wrong(MAX, 0), UNKNOWN);
        due("8: what 6", x.wrong(0, 6), OUTSIDE);
        due("8: what -1", x.wrong(0, -1), OUTSIDE);
    }

    private static void promise8Graves() {
        LastBench x = read("1;p1,p1;015,104");
        due("8: all graves", x.wrong(1, 4), 511);
        x.see(1, 1, true);
        due("8: more than 5", x.wrong(1, 4), 480);
        due("8: the other wrong is not touched", x.wrong(0, 4), 511);
        x.forget();
        x.see(1, 1, false);
        due("8: 5 at most", x.wrong(1, 4), 31);
        due("8: the real grave is not told by it", x.wrong(1, 2), 4);
        x.forget();
        x.see(0, 1, true);
        due("8: of like ones the least", x.wrong(0, 4), 504);
        x.see(0, 2, false);
        due("8: it cannot be", x.wrong(0, 4), 0);
        due("8: nothing to look for", x.wrong(0, 5), NONE);
        x.forget();
        x.forgive(1);
        x.see(1, 2, true);
        due("8: it stays forgiven", x.wrong(1, 4), 0);
        x.forget();
        x.see(1, 2, false);
        due("8: whatever it is", x.wrong(1, 4), 511);
        x = read("1;g1,p1;015,104");
        x.see(0, 2, false);
        due("8: half of 1 is nothing", x.wrong(0, 4), 1);
    }

    private static void promise8Look() {
        LastBench x = read("1;p1,p1,p1;019,125,203");
        due("8: look with two seats", x.wrong(2, 5), 2);
        due("8: look for the first", x.wrong(0, 5), 1);
        due("8: look for the second", x.wrong(1, 5), 2);
        x.see(2, 2, true);
        due("8: those left", x.wrong(2, 4), 480);
        due("8: no look parts them, so the least", x.wrong(2, 5), 1);
        x = read("6;p1,p1,p1,p1;019,127,235,303");
        due("8: four ways", x.wrong(3, 5), 3);
        x.see(3, 3, true);
        due("8: 6 to 9", x.wrong(3, 4), 480);
        due("8: then with two", x.wrong(3, 5), 2);
        x.see(3, 2, false);
        due("8: 6 and 7", x.wrong(3, 4), 96);
        due("8: the room itself is as it was", x.count(2), 6);
        x = read("1;s1,p1;015,104");
        due("8: a saint never sits", x.wrong(0, 5), 1);
        x = read("1;p1,p1,p1,p1,p1,g1;015,125,235,345,455,501");
        due("8: six seats part who has guilt from who has none", x.wrong(5, 5), 6);
        x.see(5, 6, false);
        due("8: half of 1 has no seat", x.wrong(5, 4), 1);
    }

    private static void promise9To() {
        LastBench x = read("3;p1,p1,p1,p1;011,121,201");
        due("9: straight", x.to(1, 0), 1);
        due("9: over one", x.to(0, 1), 2);
        due("9: straight from 0", x.to(0, 2), 1);
        due("9: from nowhere", x.to(3, 0), NONE);
        due("9: to nowhere", x.to(0, 3), NONE);
        x.forgive(2);
        due("9: forgiven", x.to(0, 1), NONE);
        due("9: still", x.to(2, 0), 2);
        due("9: the same", x.to(1, 1), UNKNOWN);
        due("9: from", x.to(4, 0), UNKNOWN);
        due("9: to", x.to(0, 4), UNKNOWN);
        due("9: below", x.to(-1, 0), UNKNOWN);
        due("9: far", x.to(MIN, MAX), UNKNOWN);
        x = read("3;p1,p1,p1,p1,p1,p1;101,211,321,431,541");
        due("9: five", x.to(0, 5), 5);
        due("9: not back", x.to(5, 0), NONE);
    }

    private static void promise10Sunday() {
        LastBench x = read("1;p0,p1,p2;012,101");
        due("10: one freezes", x.sunday(), 1);
        due("10: who sits is 2 warmer", x.person(0, 1), 2);
        due("10: who does not is 1 less", x.person(2, 1), 1);
        due("10: he froze", x.person(1, 4), 1);
        due("10: he did not", x.person(0, 4), 0);
        due("10: two freeze", x.sunday(), 2);
        due("10: 0 at least", x.person(1, 1), 0);
        due("10: once more", x.person(1, 4), 2);
        due("10: sundays", x.count(7), 2);
        x.change(0, 0, 19);
        x.sunday();
        due("10: 20 at most", x.person(0, 1), 20);
        x.sunday();
        due("10: 20 still", x.person(0, 1), 20);
        due("10: froze in all", x.count(8), 7);
        for (int n = 5; n <= 400; n++) {
            due("10: sunday " + n, x.sunday(), 2);
        }
        due("10: 400", x.count(7), 400);
        // No run of 512 calls gets there, yet the limit is the document's.
        for (int n = 401; n <= 999; n++) {
            x.sunday();
        }
        due("10: after 999", x.sunday(), FULL);
        due("10: 999", x.count(7), 999);
    }

    private static void promise11Forgive() {
        LastBench x = read("3;p1,g1,h1,b1,s1;015,024,105,136,209,301,402");
        due("11: a person", x.forgive(0), 4);
        due("11: a person, all", x.forgive(1), 0);
        due("11: a good one", x.forgive(2), 3);
        due("11: a holder", x.forgive(4), 1);
        due("11: a baby", x.forgive(5), 1);
        due("11: a saint", x.forgive(6), 0);
        due("11: twice", x.forgive(0), STATE);
        due("11: seven", x.forgive(7), UNKNOWN);
        due("11: below", x.forgive(-1), UNKNOWN);
        due("11: 32 is not 0", x.forgive(32), UNKNOWN);
        due("11: how many", x.count(6), 6);
    }

    private static void promise12Again() {
        LastBench x = read("3;g1,p1;015,104");
        x.forgive(0);
        due("12: done again", x.again(0, 9), 4);
        due("12: not forgiven", x.wrong(0, 3), 0);
        due("12: so grave", x.wrong(0, 2), 9);
        due("12: what is not forgiven, too", x.again(1, 1), 1);
        due("12: so grave, too", x.wrong(1, 2), 1);
        due("12: grave 0", x.again(0, 0), OUTSIDE);
        due("12: grave 10", x.again(0, 10), OUTSIDE);
        due("12: wrong 2", x.again(2, 1), UNKNOWN);
        due("12: unknown first", x.again(-1, 0), UNKNOWN);
        due("12: as it was", x.wrong(0, 2), 9);
    }

    private static void promise13Room() {
        LastBench x = new LastBench();
        due("13: no chapel", x.room(3), STATE);
        due("13: outside first", x.room(7), OUTSIDE);
        x = read("3;g1,p1;015,104");
        due("13: it held 3", x.room(6), 3);
        due("13: it held 6", x.room(1), 6);
        due("13: 0", x.room(0), OUTSIDE);
        due("13: 7", x.room(7), OUTSIDE);
        due("13: it holds 1", x.count(2), 1);
        due("13: one sits", x.count(3), 1);
        x.room(2);
        due("13: two sit", x.count(3), 2);
    }

    private static void promise14Change() {
        LastBench x = read("3;g1,p1;015,104");
        due("14: he was good", x.change(0, 2, 20), 1);
        due("14: he is a holder", x.person(0, 0), 2);
        due("14: so warm", x.person(0, 1), 20);
        due("14: his guilt", x.person(0, 2), 5);
        due("14: to what he is", x.change(0, 2, 0), 2);
        due("14: so cold", x.person(0, 1), 0);
        due("14: froze only on sundays", x.person(0, 4), 0);
        due("14: a saint", x.change(1, 4, 3), 0);
        due("14: has none", x.person(1, 2), 0);
        due("14: kind 5", x.change(0, 5, 0), OUTSIDE);
        due("14: kind -1", x.change(0, -1, 0), OUTSIDE);
        due("14: warm 21", x.change(0, 0, 21), OUTSIDE);
        due("14: warm -1", x.change(0, 0, -1), OUTSIDE);
        due("14: person 2", x.change(2, 5, 21), UNKNOWN);
        due("14: as it was", x.person(0, 0), 2);
    }

    private static void promise15Leave() {
        leaves("1;p0,p1;015,103", 1, 1, 0, 1);
        leaves("1;p3,p4;015,103", 1, 0, 3, 1);
        leaves("1;p4,p3;015,103", 1, 0, 3, 2);
        leaves("1;h3,p4;015,103", 1, 0, 3, 0);
        leaves("2;p3,p4;015,103", 1, 0, 5, 3);
        leaves("2;p3,p4;015,103,014", 6, 0, 15, 3);
        leaves("2;p3,p4;013,014,103", 6, 0, 15, 5);
        leaves("2;s3,p4;015,103", 6, 4, 0, 2);
        leaves("2;s3,p9;015,103", 6, 4, 0, 0);
        leaves("1;g3,p9;011,012,103", 3, 0, 6, 2);
        leaves("2;g3,p9;011,012,103", 3, 0, 9, 6);
        leaves("1;b0,p2;015,103", 2, 1, 0, 0);
        LastBench x = read("1;p3,p4;015,103");
        x.forgive(0);
        due("15: what is forgiven may be left", x.leave(1, 2), 1);
        due("15: it is forgiven as it was", x.count(6), 1);
        due("15: no sunday was", x.count(7), 0);
        due("15: warm as they were", x.count(4), 7);
        due("15: sundays 0", x.leave(0, 0), OUTSIDE);
        due("15: sundays 7", x.leave(7, 0), OUTSIDE);
        due("15: what 3", x.leave(1, 3), OUTSIDE);
        due("15: what -1", x.leave(1, -1), OUTSIDE);
        due("15: done once", x.count(12), 1);
        due("15: outside first", new LastBench().leave(0, 0), OUTSIDE);
    }

    private static void leaves(String text, int sundays, int freeze, int warm, int which) {
        LastBench x = read(text);
        due("15: freeze of " + text, x.leave(sundays, 0), freeze);
        due("15: warm of " + text, x.leave(sundays, 1), warm);
        due("15: which of " + text, x.leave(sundays, 2), which);
        due("15: how often", x.count(12), 3);
    }

    private static void promise15LeaveTwentyTimes() {
        LastBench x = read("1;p3,p4;015,103");
        for (int n = 0; n < 19; n++) {
            due("15: refused", x.leave(1, 3), OUTSIDE);
            due("15: leave " + n, x.leave(1, 1), 3);
        }
        x.image();
        x.restore();
        spell(x, "1;p3,p5;015,103");
        x.chapel();
        due("15: the 20th", x.leave(1, 1), 4);
        due("15: the 21st", x.leave(1, 1), STATE);
        due("15: the 22nd, outside", x.leave(9, 1), OUTSIDE);
        due("15: 20 times", x.count(12), 20);
        spell(x, "1;p3,p5;015,103");
        x.chapel();
        due("15: ever", x.leave(1, 1), STATE);
    }

    private static void promise16Ring() {
        due("16: three", read("3;p1,p1,p1;011,121,201").ring(), 3);
        due("16: none", read("3;p1,p1,p1;011,121,021").ring(), NONE);
        due("16: two", read("3;p1,p1,p1;011,121,201,211").ring(), 2);
        LastBench x = read("3;p1,p1,p1,p1,p1,p1;011,121,231,341,451,501,131");
        due("16: five", x.ring(), 5);
        x.forgive(6);
        due("16: six", x.ring(), 6);
        x.forgive(0);
        due("16: broken", x.ring(), NONE);
        x.again(0, 1);
        due("16: again", x.ring(), 6);
        due("16: no chapel", new LastBench().ring(), STATE);
    }

    private static void promise17Peace() {
        peaceOf("3;p1,p1,p1;011,121,201", 1, 1);
        peaceOf("3;p1,p1,p1;011,121,021", 0, 0);
        peaceOf("3;p1,p1;011,012,103", 1, 4);
        peaceOf("3;p1,p1;011,012,103,104", 2, 3);
        peaceOf("3;p1,p1,p1,p1;011,101,231,321", 2, 5);
        peaceOf("3;p1,p1,p1;101,021,011,201", 2, 3);
        LastBench x = read("3;p1,p1;011,012,103");
        x.forgive(0);
        due("17: the least of those not forgiven", x.peace(1), 2);
        due("17: nothing was forgiven by it", x.count(6), 1);
        x.forgive(1);
        due("17: there is none", x.peace(0), 0);
        due("17: what 2", x.peace(2), OUTSIDE);
        due("17: what -1", x.peace(-1), OUTSIDE);
        due("17: outside first", new LastBench().peace(2), OUTSIDE);
        due("17: no chapel", new LastBench().peace(1), STATE);
    }

    private static void peaceOf(String text, int many, int which) {
        LastBench x = read(text);
        due("17: how many of " + text, x.peace(0), many);
        due("17: which of " + text, x.peace(1), which);
        due("17: the ring stays", x.ring() == NONE ? 0 : 1, many == 0 ? 0 : 1);
    }

    private static void promise18Odds() {
        LastBench x = read("1;p0,p0;015,103");
        oddsAre(x, 0, 2, 4, 5);
        oddsAre(x, 1, 2, 4, 25);
        oddsAre(x, 0, 3, 7, 10);
        oddsAre(x, 1, 3, 21, 100);
        oddsAre(x, 0, 0, 1, 1);
        oddsAre(x, 1, 0, 0, 1);
        oddsAre(x, 0, 10, 0, 1);
        oddsAre(x, 1, 5, 1, 4);
        x.forgive(0);
        oddsAre(x, 0, 3, 0, 1);
        oddsAre(x, 1, 3, 7, 10);
        x = read("1;p0,p0;011,011,011,011,011,011,011,109");
        oddsAre(x, 1, 1, 9, 10);
        oddsAre(x, 0, 1, 9999999, 100000000);
        x = read("1;h0,p0;015,103");
        oddsAre(x, 0, 3, 79, 100);
        oddsAre(x, 1, 3, 21, 100);
        x = read("1;b0,s0;015,103");
        oddsAre(x, 0, 7, 1, 1);
        oddsAre(x, 1, 7, 0, 1);
        due("18: nothing was forgiven", x.count(6), 0);
        due("18: person 2", x.odds(2, 11, 2), UNKNOWN);
        due("18: person -1", x.odds(-1, 1, 0), UNKNOWN);
        due("18: tenths -1", x.odds(0, -1, 0), OUTSIDE);
        due("18: tenths 11", x.odds(0, 11, 0), OUTSIDE);
        due("18: what 2", x.odds(0, 1, 2), OUTSIDE);
        due("18: what -1", x.odds(0, 1, -1), OUTSIDE);
    }

    private static void oddsAre(LastBench x, int person, int tenths, int above, int below) {
        String call = "18: odds(" + person + ", " + tenths + ", ";
        due(call + "0)", x.odds(person, tenths, 0), above);
        due(call + "1)", x.odds(person, tenths, 1), below);
    }

    private static void promise19See() {
        LastBench x = read("1;p1,p1;015,104");
        due("19: wrong 2", x.see(2, 0, true), UNKNOWN);
        due("19: wrong -1", x.see(-1, 1, true), UNKNOWN);
        due("19: room 0", x.see(0, 0, true), OUTSIDE);
        due("19: room 7", x.see(0, 7, true), OUTSIDE);
        due("19: nothing yet", x.count(9), 0);
        for (int n = 1; n <= 6; n++) {
            due("19: see " + n, x.see(n % 2, n, n > 1), n);
        }
        due("19: full", x.see(0, 1, true), FULL);
        due("19: outside first", x.see(0, 7, true), OUTSIDE);
        due("19: unknown first", x.see(2, 7, true), UNKNOWN);
        due("19: six", x.count(9), 6);
        due("19: seen of 1", x.wrong(1, 4), 31);
        due("19: seen of 0", x.wrong(0, 4), 511);
    }

    private static void promise20Forget() {
        LastBench x = read("1;p1,p1;015,104");
        x.see(1, 1, true);
        x.see(1, 2, true);
        due("20: two were", x.forget(), 2);
        due("20: none is", x.forget(), 0);
        due("20: count", x.count(9), 0);
        due("20: any grave", x.wrong(1, 4), 511);
        due("20: the first again", x.see(1, 1, false), 1);
        due("20: by the new one", x.wrong(1, 4), 31);
    }

    private static void promise21Winters() {
        LastBench x = read("1;p3,p4;015,103");
        due("21: none freezes", x.winters(1, 0, 0), 0);
        due("21: warm", x.winters(1, 0, 1), 8);
        due("21: the seed", x.winters(1, 0, 2), 12345);
        due("21: the next", x.winters(2, 0, 2), x.winters(1, 12345, 2));
        due("21: the next by number", x.winters(2, 0, 2), (int) ((1103515245L * 12345 + 12345) & 0x7fffffffL));
        due("21: the greatest seed", x.winters(1, MAX, 2), (int) ((1103515245L * MAX + 12345) & 0x7fffffffL));
        due("21: nothing was", x.count(7) + x.count(6), 0);
        due("21: warm as they were", x.count(4), 7);
        wintersByHand("1;p3,p4,h0;015,103,207", 60, 77);
        wintersByHand("2;p0,g0,b0,s1;015,103,207,321", 31, 2000000000);
        due("21: sundays 0", x.winters(0, 0, 0), OUTSIDE);
        due("21: sundays 61", x.winters(61, 0, 0), OUTSIDE);
        due("21: seed -1", x.winters(1, -1, 0), OUTSIDE);
        due("21: what 3", x.winters(1, 0, 3), OUTSIDE);
        due("21: what -1", x.winters(1, 0, -1), OUTSIDE);
        due("21: outside first", new LastBench().winters(0, 0, 0), OUTSIDE);
    }

    private static void wintersByHand(String text, int sundays, int seed) {
        LastBench x = read(text);
        LastBench y = read(text);
        long drawn = seed;
        int freeze = 0;
        for (int day = 1; day <= sundays; day++) {
            drawn = (1103515245L * drawn + 12345) & 0x7fffffffL;
            int wrong = (int) ((drawn >> 16) % y.count(1));
            if (y.wrong(wrong, 3) == 0) {
                y.forgive(wrong);
            } else {
                y.again(wrong, y.wrong(wrong, 2));
            }
            freeze += y.sunday();
            due("21: freeze by " + day, x.winters(day, seed, 0), freeze);
            due("21: warm by " + day, x.winters(day, seed, 1), y.count(4));
            due("21: seed by " + day, x.winters(day, seed, 2), drawn);
        }
    }

    private static void promise22Image() {
        LastBench x = read("1;p3,p4;015,103");
        due("22: no sunday yet", x.image(), 0);
        x.sunday();
        x.sunday();
        due("22: two", x.image(), 2);
        x.sunday();
        due("22: the latest", x.restore(), 2);
        due("22: no chapel", new LastBench().image(), STATE);
    }

    private static void promise23Restore() {
        LastBench x = read("1;p0,g1;015,103");
        due("23: none kept", x.restore(), STATE);
        due("23: one freezes", x.sunday(), 1);
        x.forgive(0);
        x.see(1, 1, true);
        long before = x.digest();
        due("23: image", x.image(), 1);
        x.room(6);
        x.change(0, 4, 17);
        x.change(1, 2, 0);
        x.again(0, 2);
        x.again(1, 8);
        x.forgive(1);
        x.sunday();
        x.forget();
        x.see(0, 3, false);
        x.see(0, 4, false);
        due("23: restore", x.restore(), 1);
        due("23: all as it was", x.digest(), before);
        x.sunday();
        due("23: once more", x.restore(), 1);
        due("23: all as it was once more", x.digest(), before);
        x.letter(49);
        x.leave(1, 0);
        x.restore();
        due("23: the page stays", x.count(10), 1);
        due("23: leave stays done", x.count(12), 1);
        due("23: no chapel is read", x.chapel(), STATE);
        due("23: and the image stays", x.restore(), 1);
        x.blank();
        spell(x, "1;p0,g4;015,103");
        x.chapel();
        due("23: another chapel", x.restore(), STATE);
        due("23: its image", x.image(), 0);
        due("23: its image again", x.restore(), 0);
    }

    private static void promise24Count() {
        LastBench x = read("2;p0,g4,b9;015,103,127");
        x.sunday();
        x.forgive(0);
        x.see(1, 1, true);
        x.letter(50);
        x.letter(51);
        x.leave(1, 0);
        int[] told = {3, 3, 2, 2, 2 + 6 + 8, 0 + 5 + 1, 1, 1, 0, 1, 2, 1, 1};
        for (int what = 0; what <= 12; what++) {
            due("24: count(" + what + ")", x.count(what), told[what]);
        }
        x.sunday();
        x.sunday();
        x.sunday();
        due("24: froze", x.count(8), 2);
        x.again(0, 8);
        due("24: guilt of all", x.count(5), 8 + 5 + 1);
        due("24: -1", x.count(-1), OUTSIDE);
        due("24: 13", x.count(13), OUTSIDE);
        due("24: least", x.count(MIN), OUTSIDE);
        due("24: most", x.count(MAX), OUTSIDE);
    }

    private static void promise25Digest() {
        long h = 1289;
        for (int n = 0; n < 13; n++) {
            h *= 31;
        }
        due("25: a new object", new LastBench().digest(), h);
        LastBench page = new LastBench();
        page.letter(126);
        page.letter(1);
        due("25: a page", page.digest(), digestByHand(page, new int[] {126, 1}));
        LastBench x = read("2;p4,g7,h2,b0,s5,p9;014,125,236,343,451,508,203,316");
        due("25: a chapel", x.digest(), digestByHand(x, new int[0]));
        x.sunday();
        x.forgive(3);
        x.see(2, 3, false);
        spell(x, "3;p");
        x.leave(2, 2);
        due("25: as it goes on", x.digest(), digestByHand(x, new int[] {'3', ';', 'p'}));
        due("25: the same again", x.digest(), x.digest());
    }

    private static long digestByHand(LastBench x, int[] letters) {
        long h = 1289;
        for (int person = 0; person < x.count(0); person++) {
            for (int what = 0; what <= 5; what++) {
                h = 31 * h + x.person(person, what);
            }
            h = 31 * h + x.odds(person, 4, 0);
            h = 31 * h + x.odds(person, 4, 1);
        }
        for (int wrong = 0; wrong < x.count(1); wrong++) {
            for (int what = 0; what <= 5; what++) {
                h = 31 * h + x.wrong(wrong, what);
            }
        }
        if (x.count(0) > 0) {
            h = 31 * h + x.to(0, 1);
            h = 31 * h + x.to(1, 0);
            h = 31 * h + x.ring();
            h = 31 * h + x.peace(0);
            h = 31 * h + x.peace(1);
        }
        for (int letter : letters) {
            h = 31 * h + letter;
        }
        for (int what = 0; what <= 12; what++) {
            h = 31 * h + x.count(what);
        }
        return h;
    }

    private static void refusalsChangeNothing() {
        LastBench x = read("2;p0,g4,b9;015,103,127");
        x.forgive(1);
        spell(x, "1;p");
        long before = x.digest();
        x.letter(0);
        x.chapel();
        x.forgive(1);
        x.forgive(3);
        x.again(1, 0);
        x.again(3, 1);
        x.room(0);
        x.change(0, 1, 21);
        x.change(0, 5, 1);
        x.change(3, 1, 1);
        x.leave(7, 0);
        x.see(0, 7, true);
        x.see(3, 1, true);
        x.restore();
        due("refusals change nothing", x.digest(), before);
    }
}
