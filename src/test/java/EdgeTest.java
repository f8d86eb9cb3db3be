import java.util.ArrayList;
import java.util.List;

/**
 * The edges that the document names, sentence by sentence: the last value that is taken on either side,
 * the empty and the full, the wrap-arounds, and what decides among like ones. What is refused
 * stands in RefusalTest.
 */
public final class EdgeTest {
    private static final int NONE = -1, OUTSIDE = -102, STATE = -103, FULL = -104;
    private static final int MAX = Integer.MAX_VALUE;
    private static final String KINDS = "pghbs";
    private static int failures = 0;

    public static void main(String[] args) {
        newObject();
        pageFills();
        everyLetterBehindEveryBeginning();
        blankLeavesNothing();
        faultIsTheFirst();
        chapelTakesTheShortestAndTheLongest();
        chapelBeginsAnew();
        guiltOfOneWrong();
        guiltOfAllTogether();
        guiltOfWhoDidNothing();
        seatsByGuilt();
        seatsAmongLikeOnes();
        seatsForNobody();
        froze();
        grudgesStraight();
        casts();
        gravesOneByOne();
        gravesOfOthers();
        lookWithEachRoom();
        lookAmongLikeOnes();
        lookForNone();
        gravesAndLookByTrial();
        steps();
        warmByOneSunday();
        forgiveAndAgain();
        roomsThatAreTaken();
        changesThatAreTaken();
        leaveFewestFreeze();
        leaveThenWarmest();
        leaveThenFewestWrongs();
        leaveThenLeastBits();
        leaveForEachSundays();
        leaveFromNowOn();
        leaveTwentyTimes();
        rings();
        peaceFewest();
        peaceOnlyByWhatIsNotForgiven();
        oddsOfNothingAndAll();
        oddsInLowestTerms();
        seenFills();
        seenStays();
        wintersOfEachLength();
        wintersBySeeds();
        wintersOnlyWouldBe();
        imageKeepsEach();
        imageLatest();
        imageKeepsNoMore();
        counts();
        digests();
        tellingLeavesNoTrace();
        theLastOf512Calls();
        System.out.println(failures == 0 ? "all edges hold" : failures + " edges do not hold");
        if (failures != 0) {
            System.exit(1);
        }
    }

    private static void due(String call, long got, long want) {
        if (got != want) {
            failures++;
            System.out.println(call + " answered " + got + ", due is " + want);
        }
    }

    private static void spell(LastBench x, String text) {
        for (int i = 0; i < text.length(); i++) {
            x.letter(text.charAt(i));
        }
    }

    private static LastBench read(String text) {
        LastBench x = new LastBench();
        spell(x, text);
        due("chapel of " + text, x.chapel(), text.split(";")[1].split(",").length);
        return x;
    }

    /** A chapel of so many people and wrongs, each wrong to the next one. */
    private static String text(int people, int wrongs) {
        StringBuilder s = new StringBuilder("6;");
        for (int p = 0; p < people; p++) {
            s.append(p == 0 ? "" : ",").append(KINDS.charAt(p % 5)).append((9 + p) % 10);
        }
        s.append(';');
        for (int w = 0; w < wrongs; w++) {
            s.append(w == 0 ? "" : ",").append(w % people).append((w + 1) % people).append(1 + w);
        }
        return s.toString();
    }

    /** All that a chapel tells, but for the page, how many were read and how often leave() was done. */
    private static List<Long> told(LastBench x) {
        List<Long> all = new ArrayList<>();
        for (int what = 0; what <= 9; what++) {
            all.add((long) x.count(what));
        }
        for (int p = 0; p < x.count(0); p++) {
            for (int what = 0; what <= 5; what++) {
                all.add((long) x.person(p, what));
            }
            all.add((long) x.odds(p, 3, 0));
        }
        for (int w = 0; w < x.count(1); w++) {
            for (int what = 0; what <= 5; what++) {
                all.add((long) x.wrong(w, what));
            }
        }
        all.add((long) x.ring());
        all.add((long) x.peace(1));
        all.add((long) x.winters(60, 1, 1));
        return all;
    }

    // ---- promise 1

    private static void newObject() {
        LastBench x = new LastBench();
        due("1: the page is empty", x.blank(), 0);
        due("1: no fault on it", x.fault(), 0);
        due("1: it is no chapel", x.chapel(), STATE);
        due("1: nothing is seen", x.forget(), 0);
        for (int what = 0; what <= 12; what++) {
            due("1: count(" + what + ")", x.count(what), 0);
        }
        spell(x, "3;p3,h4;015,103");
        x.chapel();
        due("1: then nothing is forgiven", x.count(6), 0);
        due("1: wrong 0 is not", x.wrong(0, 3), 0);
        due("1: wrong 1 is not", x.wrong(1, 3), 0);
        due("1: it is sunday 0", x.count(7), 0);
        due("1: none froze", x.count(8), 0);
        due("1: nothing is seen then", x.count(9), 0);
    }

    // ---- promises 2 to 5

    private static void pageFills() {
        for (int code = 1; code <= 126; code++) {
            due("2: letter(" + code + ")", new LastBench().letter(code), 1);
        }
        LastBench x = new LastBench();
        for (int n = 1; n <= 54; n++) {
            due("2: letter " + n, x.letter(n), n);
        }
        due("2: the 55th", x.letter(55), FULL);
        due("2: the 55th again", x.letter(126), FULL);
        due("3: 54 were there", x.blank(), 54);
        due("3: none is there", x.blank(), 0);
        due("3: none is counted", x.count(10), 0);
        due("2: there is room again", x.letter(126), 1);
        due("4: it is none of the old ones", x.fault(), 0);
    }

    /** The signs that may stand behind a beginning that is right so far, told by counting its parts. */
    private static String mayFollow(String begun) {
        String[] parts = begun.split(";", -1);
        if (parts.length == 1) {
            return begun.isEmpty() ? "123456" : ";";
        }
        String[] people = parts[1].split(",", -1);
        if (parts.length == 2) {
            int letters = people[people.length - 1].length();
            String behind = (people.length < 6 ? "," : "") + (people.length > 1 ? ";" : "");
            return letters == 0 ? KINDS : letters == 1 ? "0123456789" : behind;
        }
        String[] wrongs = parts[2].split(",", -1);
        String last = wrongs[wrongs.length - 1];
        String there = "012345".substring(0, people.length);
        switch (last.length()) {
            case 0: return there;
            case 1: return there.replace(last, "");
            case 2: return "123456789";
            default: return wrongs.length < 8 ? "," : "";
        }
    }

    private static void everyLetterBehindEveryBeginning() {
        for (int people = 2; people <= 6; people++) {
            for (int wrongs : new int[] {1, 2, 8}) {
                String whole = text(people, wrongs);
                for (int length = 0; length <= whole.length(); length++) {
                    String begun = whole.substring(0, length);
                    String may = mayFollow(begun);
                    for (int code = 1; code <= 126; code++) {
                        oneMore(begun, code, may.indexOf(code) >= 0);
                    }
                }
            }
        }
    }

    private static void oneMore(String begun, int code, boolean may) {
        LastBench x = new LastBench();
        spell(x, begun);
        x.letter(code);
        String text = begun + (char) code;
        due("4: fault of '" + text + "'", x.fault(), may ? text.length() : begun.length());
        String[] parts = text.split(";", -1);
        boolean whole = may && parts.length == 3 && text.length() - text.lastIndexOf(parts[2].contains(",") ? ',' : ';') == 4;
        due("5: chapel of '" + text + "'", x.chapel(), whole ? parts[1].split(",").length : STATE);
        due("5: letters behind chapel of '" + text + "'", x.count(10), whole ? 0 : text.length());
        due("5: how many are read by '" + text + "'", x.count(11), whole ? 1 : 0);
    }

    /** Of a longer page that was there before, nothing is read behind the last letter. */
    private static void blankLeavesNothing() {
        String longer = text(6, 8);
        for (int length = 0; length <= longer.length(); length++) {
            LastBench x = new LastBench();
            spell(x, longer);
            due("3: 51 were there", x.blank(), 51);
            spell(x, longer.substring(0, length));
            due("3: fault at " + length, x.fault(), length);
            due("3: chapel of " + length, x.chapel(), length >= 23 && length % 4 == 3 ? 6 : STATE);
        }
        LastBench x = new LastBench();
        spell(x, "1;p1,p1;011,");
        x.blank();
        spell(x, "1;p1,p1;011");
        due("3: a shorter one is whole", x.chapel(), 2);
        spell(x, "1;p1,p1;01");
        due("5: of the last chapel nothing is read again", x.chapel(), STATE);
        due("4: it has no fault", x.fault(), 10);
    }

    private static void faultIsTheFirst() {
        String whole = text(6, 8);
        due("4: the longest", whole.length(), 51);
        for (int place = 0; place < whole.length(); place++) {
            LastBench x = new LastBench();
            spell(x, whole.substring(0, place));
            x.letter(33);
            spell(x, whole.substring(place + 1));
            due("4: one fault at " + place, x.fault(), place);
            due("4: the page stays", x.count(10), 51);
            x.blank();
            spell(x, whole.substring(0, place));
            spell(x, "!!");
            due("4: two faults at " + place, x.fault(), place);
            x.blank();
            spell(x, whole.substring(0, place));
            due("4: none so far at " + place, x.fault(), place);
            due("5: no chapel so far, or one", x.chapel(), place >= 23 && place % 4 == 3 ? 6 : STATE);
        }
        LastBench x = new LastBench();
        spell(x, whole + ",01");
        due("4: a full page", x.count(10), 54);
        due("4: a ninth wrong", x.fault(), 51);
        due("5: a full page is no chapel", x.chapel(), STATE);
        due("5: and it stays", x.count(10), 54);
    }

    private static void chapelTakesTheShortestAndTheLongest() {
        for (int people = 2; people <= 6; people++) {
            for (int wrongs = 1; wrongs <= 8; wrongs++) {
                LastBench x = new LastBench();
                String text = text(people, wrongs);
                spell(x, text);
                due("4: fault of " + text, x.fault(), text.length());
                due("5: people of " + text, x.chapel(), people);
                due("5: people counted of " + text, x.count(0), people);
                due("5: wrongs of " + text, x.count(1), wrongs);
                for (int p = 0; p < people; p++) {
                    due("5: kind of " + p, x.person(p, 0), p % 5);
                    due("5: warm of " + p, x.person(p, 1), (9 + p) % 10);
                }
                for (int w = 0; w < wrongs; w++) {
                    due("5: did of " + w, x.wrong(w, 0), w % people);
                    due("5: whom of " + w, x.wrong(w, 1), (w + 1) % people);
                    due("5: grave of " + w, x.wrong(w, 2), w + 1);
                }
            }
        }
        for (int room = 1; room <= 6; room++) {
            due("5: room " + room, read(room + ";p0,p9;011").count(2), room);
        }
        for (int warm = 0; warm <= 9; warm++) {
            due("5: warm " + warm, read("1;p1,b" + warm + ";011").person(1, 1), warm);
        }
        for (int grave = 1; grave <= 9; grave++) {
            due("5: grave " + grave, read("1;p1,p1;01" + grave).wrong(0, 2), grave);
        }
    }

    private static void chapelBeginsAnew() {
        for (String next : new String[] {text(2, 1), text(6, 8), "2;p0,g1,h0;015,203,121"}) {
            LastBench x = read("2;p0,g1,h0;015,203,121");
            for (int n = 0; n < 3; n++) {
                x.sunday();
            }
            x.forgive(0);
            x.forgive(2);
            x.again(1, 8);
            x.room(5);
            x.change(0, 3, 19);
            x.see(0, 1, false);
            x.see(1, 6, true);
            x.image();
            x.leave(1, 0);
            spell(x, next);
            x.chapel();
            if (!told(x).equals(told(read(next)))) {
                due("5: another one is gone, with all that was: " + next, 0, 1);
            }
            due("5: the image is gone", x.restore(), STATE);
            due("5: two were read", x.count(11), 2);
            due("5: leave stays done", x.count(12), 1);
            due("5: the page is empty", x.count(10), 0);
            due("5: what was seen is gone", x.forget(), 0);
        }
    }

    // ---- promise 6

    private static void guiltOfOneWrong() {
        for (int grave = 1; grave <= 9; grave++) {
            int[] open = {grave, grave / 2, grave, grave, 0};
            int[] forgiven = {0, 0, 1, 1, 0};
            for (int kind = 0; kind <= 4; kind++) {
                LastBench x = read("6;" + KINDS.charAt(kind) + "5,p5;01" + grave);
                String who = "a " + KINDS.charAt(kind) + " of " + grave;
                due("6: guilt of " + who, x.person(0, 2), open[kind]);
                due("6: seat of " + who, x.person(0, 3), open[kind] > 0 ? 1 : 0);
                due("11: forgive " + who, x.forgive(0), forgiven[kind]);
                due("6: guilt, forgiven, of " + who, x.person(0, 2), forgiven[kind]);
                due("6: seat, forgiven, of " + who, x.person(0, 3), forgiven[kind]);
                due("12: again " + who, x.again(0, grave), open[kind]);
                due("6: to whom it was done has none", x.person(1, 2), 0);
            }
        }
    }

    private static void guiltOfAllTogether() {
        int[] halves = {1, 1, 3, 3, 5, 5, 7, 9};
        for (int kind = 0; kind <= 4; kind++) {
            char letter = KINDS.charAt(kind);
            LastBench x = read("1;" + letter + "5,p5;019,019,019,019,019,019,019,019");
            due("6: the most guilt of " + letter, x.person(0, 2), new int[] {72, 36, 72, 72, 0}[kind]);
            for (int w = 0; w < 8; w++) {
                int left = 63 - 9 * w;
                due("11: so many forgiven of " + letter, x.forgive(w), new int[] {left, left / 2, left + w + 1, Math.max(1, left), 0}[kind]);
            }
            due("6: all forgiven of " + letter, x.person(0, 2), new int[] {0, 0, 8, 1, 0}[kind]);
            int sum = 0;
            for (int w = 0; w < 8; w++) {
                sum += halves[w];
                int let = 7 - w;
                due("12: so much again of " + letter, x.again(w, halves[w]), new int[] {sum, sum / 2, sum + let, sum, 0}[kind]);
            }
        }
    }

    private static void guiltOfWhoDidNothing() {
        LastBench x = read("6;p5,g5,h5,b5,s5,p5;501");
        for (int person = 0; person <= 4; person++) {
            due("6: who did nothing, " + person, x.person(person, 2), person == 3 ? 1 : 0);
            due("6: his seat, " + person, x.person(person, 3), person == 3 ? 1 : 0);
        }
        due("6: he who did it", x.person(5, 2), 1);
        due("24: two sit", x.count(3), 2);
        due("24: guilt of both", x.count(5), 2);
    }

    private static void seatsByGuilt() {
        LastBench x = read("1;p5,p5,p5,p5,p5,p5;011,122,233,344,455,506");
        for (int room = 1; room <= 6; room++) {
            x.room(room);
            for (int person = 0; person < 6; person++) {
                due("6: room " + room + ", guilt " + (person + 1), x.person(person, 3), person >= 6 - room ? 1 : 0);
            }
            due("24: who sit with room " + room, x.count(3), room);
        }
    }

    private static void seatsAmongLikeOnes() {
        LastBench x = read("1;p5,p5,p5,p5,p5,p5;015,125,235,345,455,505");
        for (int room = 1; room <= 6; room++) {
            x.room(room);
            for (int person = 0; person < 6; person++) {
                due("6: like ones, room " + room + ", person " + person, x.person(person, 3), person < room ? 1 : 0);
            }
        }
        x.room(1);
        x.again(5, 6);
        due("6: the greater guilt is first", x.person(5, 3), 1);
        due("6: the least number is not", x.person(0, 3), 0);
        x.again(0, 6);
        due("6: the least of the two", x.person(0, 3), 1);
        due("6: not the other", x.person(5, 3), 0);
        x.again(0, 4);
        x.again(5, 5);
        due("6: the least of those four", x.person(1, 3), 1);
        x.room(5);
        due("6: who has least has no seat", x.person(0, 3), 0);
        due("6: the last has one", x.person(5, 3), 1);
    }

    private static void seatsForNobody() {
        LastBench x = read("6;s5,g5;019,101");
        due("6: nobody sits", x.count(3), 0);
        due("24: no guilt", x.count(5), 0);
        x.again(1, 2);
        due("6: one sits", x.count(3), 1);
        x.forgive(1);
        due("6: nobody again", x.count(3), 0);
        x = read("6;b5,b5;011");
        due("6: more room than people", x.count(3), 2);
    }

    private static void froze() {
        LastBench x = read("1;p2,p1,p0;011");
        int[][] told = {{0, 1, 1}, {0, 2, 2}, {0, 3, 3}};
        for (int day = 0; day < 3; day++) {
            due("10: two freeze", x.sunday(), 2);
            for (int person = 0; person < 3; person++) {
                due("6: froze by sunday " + day + ", " + person, x.person(person, 4), told[day][person]);
            }
        }
        x.change(1, 0, 9);
        due("14: it stays how often he froze", x.person(1, 4), 3);
    }

    private static void grudgesStraight() {
        LastBench x = read("1;p1,p1,p1,p1,p1,p1;102,203,304,405,506,011,501");
        due("6: to all others", x.person(0, 5), 62);
        due("6: to the first", x.person(1, 5), 1);
        due("6: to nobody", x.person(2, 5), 0);
        x.forgive(4);
        due("6: one of two that he did is forgiven", x.person(0, 5), 62);
        x.forgive(6);
        due("6: both are", x.person(0, 5), 30);
        x.forgive(5);
        due("6: to the first no more", x.person(1, 5), 0);
        x.again(5, 1);
        due("6: to the first again", x.person(1, 5), 1);
    }

    // ---- promise 7

    private static void casts() {
        String[] rows = {"10000", "11000", "10100", "10010", "11001"};
        LastBench x = read("1;p1,p1,p1,p1,p1,p1;011");
        for (int own = 0; own <= 4; own++) {
            int others = (own + 1) % 5;
            x.change(5, own, 1);
            x.change(0, others, 1);
            for (int kind = 0; kind <= 4; kind++) {
                due("7: own " + own + " as " + kind, x.as(5, kind), rows[own].charAt(kind) == '1' ? 5 : NONE);
                due("7: the first, own " + others + " as " + kind, x.as(0, kind), rows[others].charAt(kind) == '1' ? 0 : NONE);
                due("7: one between as " + kind, x.as(3, kind), kind == 0 ? 3 : NONE);
            }
        }
    }

    // ---- promise 8

    /** The first one has the second seat alone with just this grave: more takes the first, less the third. */
    private static void gravesOneByOne() {
        for (int grave = 1; grave <= 9; grave++) {
            LastBench x = read("1;p1,p1,p1;011,12" + grave + ",121,20" + grave);
            due("8: all, grave " + grave, x.wrong(0, 4), 511);
            x.see(0, 1, false);
            due("8: " + grave + " at most", x.wrong(0, 4), (1 << grave) - 1);
            x.see(0, 2, true);
            due("8: just " + grave, x.wrong(0, 4), 1 << (grave - 1));
            due("8: what it is does not matter", x.wrong(0, 2), 1);
            due("8: one left, so the least room", x.wrong(0, 5), 1);
            x.forget();
            x.see(0, 1, true);
            due("8: more than " + grave, x.wrong(0, 4), 511 & ~((1 << grave) - 1));
            x.forget();
            x.see(0, 2, false);
            due("8: less than " + grave, x.wrong(0, 4), (1 << (grave - 1)) - 1);
        }
    }

    private static void gravesOfOthers() {
        LastBench x = read("6;p1,p1;015,104,016");
        x.see(0, 1, false);
        due("8: with the other one of his it is always more", x.wrong(0, 4), 0);
        due("8: of the other one nothing is seen", x.wrong(2, 4), 511);
        due("8: of the other's nothing is seen", x.wrong(1, 4), 511);
        x.again(1, 9);
        due("8: all else as it is: 1 and 2 are less", x.wrong(0, 4), 3);
        x.forgive(2);
        due("8: and as it is now: less than 9", x.wrong(0, 4), 255);
        x.forgive(0);
        due("8: forgiven it is always so", x.wrong(0, 4), 511);
        x.forget();
        x.see(0, 6, true);
        due("8: forgiven it is never so", x.wrong(0, 4), 0);
        x.change(0, 2, 1);
        due("8: a holder has a seat all the same", x.wrong(0, 4), 511);
        x.change(0, 3, 1);
        due("8: a baby, too", x.wrong(0, 4), 511);
        x.change(0, 4, 1);
        due("8: a saint has none", x.wrong(0, 4), 0);
        x.again(0, 1);
        x.change(0, 1, 1);
        due("8: a good one from 2 on", x.wrong(0, 4), 510);
    }

    private static void lookWithEachRoom() {
        for (int room = 1; room <= 5; room++) {
            StringBuilder s = new StringBuilder("6;p1,p1,p1,p1,p1,p1;501");
            for (int ahead = 0; ahead < room - 1; ahead++) {
                s.append(',').append(ahead).append("59");
            }
            s.append(',').append(room - 1).append("54");
            LastBench x = read(s.toString());
            due("8: look with room " + room, x.wrong(0, 5), room);
            x.see(0, room, true);
            due("8: more than 4", x.wrong(0, 4), 496);
            x.see(0, room, false);
            due("8: nothing is left", x.wrong(0, 4), 0);
            due("8: no look", x.wrong(0, 5), NONE);
            due("24: the room is as it was", x.count(2), 6);
        }
        LastBench x = read("1;p1,p1,p1,p1,p1,g1;501,059,159,259,359,459");
        due("8: look with room 6", x.wrong(0, 5), 6);
    }

    private static void lookAmongLikeOnes() {
        LastBench x = read("1;p1,p1,p1;201,014,125");
        due("8: 5 and 4 or 4 and 5: the least", x.wrong(0, 5), 1);
        x.again(1, 3);
        due("8: 4 and 5 is better than 6 and 3", x.wrong(0, 5), 1);
        x.again(1, 4);
        x.again(2, 6);
        due("8: 5 and 4 is better than 3 and 6", x.wrong(0, 5), 2);
        x.see(0, 1, false);
        due("8: of those left", x.wrong(0, 4), 63);
        due("8: 2 and 4", x.wrong(0, 5), 2);
        x.see(0, 2, true);
        due("8: 5 and 6", x.wrong(0, 4), 48);
        due("8: none parts them", x.wrong(0, 5), 1);
    }

    private static void lookForNone() {
        LastBench x = read("1;p1,p1;015,103");
        x.see(0, 2, false);
        due("8: it cannot be", x.wrong(0, 4), 0);
        due("8: so there is no look", x.wrong(0, 5), NONE);
        due("8: for the other there is one", x.wrong(1, 5), 1);
        x.forget();
        due("8: then there is one again", x.wrong(0, 5), 1);
    }

    /** Graves by doing the wrong again with each, look by seeing both ways with each room, all on other objects. */
    private static void gravesAndLookByTrial() {
        String[] texts = {"1;p1,p1;011,104", "2;p1,p1,p1;201,014,127", "3;g1,p1,h1,b1;012,105,233,321,022", "6;b1,p1,p1,p1;011,123,235,307",
            "1;h1,g1,p1,p1,p1,p1;011,129,238,347,456,505,024,103", "4;p1,p1,p1,p1,p1,s1;501,011,122,233,344,455", "2;g1,g1,g1;012,124,206,019"};
        for (String text : texts) {
            int wrongs = text.split(";")[2].split(",").length;
            for (int wrong = 0; wrong < wrongs; wrong++) {
                trial(text, wrong, new int[0]);
                for (int room = 1; room <= 6; room++) {
                    trial(text, wrong, new int[] {room});
                    trial(text, wrong, new int[] {-room});
                    trial(text, wrong, new int[] {-1, room});
                }
            }
        }
    }

    /** What is seen is told by rooms: above 0 he sits, below 0 he does not. */
    private static LastBench readAndSee(String text, int wrong, int[] seen) {
        LastBench x = read(text);
        for (int room : seen) {
            x.see(wrong, Math.abs(room), room > 0);
        }
        return x;
    }

    private static void trial(String text, int wrong, int[] seen) {
        LastBench y = read(text);
        int did = y.wrong(wrong, 0);
        int bits = 0;
        for (int grave = 1; grave <= 9; grave++) {
            y.again(wrong, grave);
            boolean so = true;
            for (int room : seen) {
                y.room(Math.abs(room));
                so &= y.person(did, 3) == (room > 0 ? 1 : 0);
            }
            bits |= so ? 1 << (grave - 1) : 0;
        }
        String of = wrong + " of " + text + " by " + java.util.Arrays.toString(seen);
        LastBench x = readAndSee(text, wrong, seen);
        due("8: graves of " + of, x.wrong(wrong, 4), bits);
        int best = NONE;
        int fewest = 10;
        for (int room = 1; room <= 6 && bits != 0; room++) {
            LastBench yes = readAndSee(text, wrong, seen);
            LastBench no = readAndSee(text, wrong, seen);
            yes.see(wrong, room, true);
            no.see(wrong, room, false);
            int worst = Math.max(Integer.bitCount(yes.wrong(wrong, 4)), Integer.bitCount(no.wrong(wrong, 4)));
            if (worst < fewest) {
                fewest = worst;
                best = room;
            }
        }
        due("8: look for " + of, x.wrong(wrong, 5), best);
    }

    // ---- promise 9

    private static void steps() {
        LastBench x = read("1;p1,p1,p1,p1,p1,p1;101,211,321,431,541");
        for (int from = 0; from < 6; from++) {
            for (int to = 0; to < 6; to++) {
                if (from != to) {
                    due("9: to(" + from + ", " + to + ")", x.to(from, to), to > from ? to - from : NONE);
                }
            }
        }
        x.forgive(2);
        due("9: as far as 2", x.to(0, 2), 2);
        due("9: not beyond", x.to(0, 3), NONE);
        due("9: from 3 on", x.to(3, 5), 2);
        x = read("1;p1,p1,p1,p1,p1,p1;101,211,321,431,541,051,301");
        due("9: the shorter way", x.to(0, 3), 1);
        due("9: and on", x.to(0, 5), 3);
        due("9: round", x.to(5, 4), 3);
        due("9: the longest round", x.to(1, 0), 5);
        x = read("1;p1,p1,p1,p1,p1,p1;101,201,311,421,531,541");
        int[] behind = {1, 1, 2, 2, 3};
        for (int to = 1; to <= 5; to++) {
            due("9: two ways part, to " + to, x.to(0, to), behind[to - 1]);
        }
        x.forgive(5);
        due("9: by the one way", x.to(0, 5), 3);
        due("9: not by the other", x.to(2, 5), NONE);
        x.again(5, 1);
        x.forgive(4);
        due("9: by the other way", x.to(0, 5), 3);
        due("9: not by the one", x.to(1, 5), NONE);
    }

    // ---- promise 10

    private static void warmByOneSunday() {
        for (int warm = 0; warm <= 20; warm++) {
            LastBench x = read("1;p1,p1;011");
            x.change(0, 0, warm);
            x.change(1, 0, warm);
            int cold = warm <= 1 ? 1 : 0;
            due("10: freeze from " + warm, x.sunday(), cold);
            due("10: who sits from " + warm, x.person(0, 1), Math.min(20, warm + 2));
            due("10: who does not from " + warm, x.person(1, 1), Math.max(0, warm - 1));
            due("10: who sits does not freeze", x.person(0, 4), 0);
            due("10: who does not, does", x.person(1, 4), cold);
            due("10: a sunday more", x.count(7), 1);
            due("10: froze", x.count(8), cold);
        }
        LastBench x = read("6;p0,p0,p0,p0,p0,p0;011,121");
        due("10: all but two freeze", x.sunday(), 4);
        x.forgive(0);
        x.forgive(1);
        due("10: those are warm still", x.sunday(), 4);
        due("10: now all freeze", x.sunday(), 6);
        due("10: each as often as he does", x.count(8), 14);
        for (int n = 4; n <= 200; n++) {
            due("10: sunday " + n, x.sunday(), 6);
            due("10: how many there were", x.count(7), n);
        }
    }

    // ---- promises 11 to 14

    private static void forgiveAndAgain() {
        LastBench x = read("6;p1,p1;011,011,011,011,011,011,011,019");
        for (int w = 7; w >= 0; w--) {
            due("11: forgive " + w, x.forgive(w), w);
            due("11: forgiven " + w, x.wrong(w, 3), 1);
            due("11: how many by " + w, x.count(6), 8 - w);
            due("11: twice " + w, x.forgive(w), STATE);
        }
        due("12: again the first, 1", x.again(0, 1), 1);
        due("12: again the last, 9", x.again(7, 9), 10);
        due("12: the first is not forgiven", x.wrong(0, 3), 0);
        due("12: the others are", x.count(6), 6);
        due("12: what is not forgiven is done again, too", x.again(7, 1), 2);
        due("11: and can be forgiven again", x.forgive(7), 1);
        due("11: its grave stays", x.wrong(7, 2), 1);
        // Each one's own guilt, with no image and nothing asked before.
        x = read("6;p1,p1,p1,p1,p1,p1;501,412,423,309,218,107,016");
        due("11: of 5", x.forgive(0), 0);
        due("11: of 4", x.forgive(1), 3);
        due("11: of 1", x.forgive(5), 0);
        due("12: of 3", x.again(3, 4), 4);
        due("12: of 5", x.again(0, 9), 9);
        due("12: of 4", x.again(1, 5), 8);
    }

    private static void roomsThatAreTaken() {
        LastBench x = read("4;p1,p1;011");
        int held = 4;
        for (int room : new int[] {1, 6, 2, 5, 3, 4, 4, 6, 1}) {
            due("13: room(" + room + ")", x.room(room), held);
            due("13: it holds " + room, x.count(2), room);
            held = room;
        }
    }

    private static void changesThatAreTaken() {
        LastBench x = read("4;p1,p1,p1,p1,p1,p1;011");
        int[] was = new int[6];
        for (int kind = 0; kind <= 4; kind++) {
            for (int warm : new int[] {0, 20, 1, 19}) {
                for (int person : new int[] {0, 5}) {
                    due("14: change(" + person + ", " + kind + ", " + warm + ")", x.change(person, kind, warm), was[person]);
                    due("14: kind", x.person(person, 0), kind);
                    due("14: warm", x.person(person, 1), warm);
                    was[person] = kind;
                }
            }
        }
        due("14: none freezes by it", x.count(8), 0);
        due("14: the others stay", x.person(1, 0) + x.person(4, 0), 0);
        due("14: warm as they were", x.person(1, 1) + x.person(4, 1), 2);
    }

    // ---- promise 15

    private static void leaves(String text, int sundays, int freeze, int warm, int which) {
        LastBench x = read(text);
        due("15: freeze of " + text, x.leave(sundays, 0), freeze);
        due("15: warm of " + text, x.leave(sundays, 1), warm);
        due("15: which of " + text, x.leave(sundays, 2), which);
    }

    private static void leaveFewestFreeze() {
        // Each counts as often as he freezes: 4 times is better than 6 times.
        leaves("1;p0,p3;103,015", 6, 4, 0, 2);
        // Fewer freeze, though the least warm one is colder and more wrongs are left.
        leaves("1;p1,p9,p1;019,105", 1, 1, 0, 1);
        leaves("2;p1,p9,p1;019,215", 1, 0, 3, 3);
        // Nobody can be helped.
        leaves("6;s0,s0,s0,s0,s0,s0;011", 6, 36, 0, 0);
        leaves("6;b0,b0,b0,b0,b0,b0;011", 6, 0, 12, 0);
    }

    private static void leaveThenWarmest() {
        leaves("1;p5,p9;015,103", 1, 0, 7, 1);
        leaves("1;p9,p5;015,103", 1, 0, 7, 2);
        leaves("2;p5,p5;015,103", 1, 0, 7, 3);
        leaves("1;p5,p5;015,103", 1, 0, 4, 0);
        leaves("6;p9,p9;015,103", 6, 0, 20, 3);
    }

    private static void leaveThenFewestWrongs() {
        leaves("1;g3,p9;011,011,012", 1, 0, 5, 4);
        leaves("1;g3,p9;012,011,011", 1, 0, 5, 1);
        leaves("1;p3,p9;011,012,013,014,015,016,017,018", 1, 0, 5, 1);
        leaves("1;h3,p9;011,012", 1, 0, 5, 0);
    }

    private static void leaveThenLeastBits() {
        leaves("1;p3,p9;103,015,019", 1, 0, 5, 2);
        leaves("1;g3,p9;011,011,011", 1, 0, 5, 3);
        leaves("2;p3,p3;015,103,104,012", 1, 0, 5, 3);
        leaves("1;p9,p3;011,012,013,014,015,016,017,108", 1, 0, 5, 128);
    }

    private static void leaveForEachSundays() {
        int[] freeze = {0, 0, 1, 2, 3, 4};
        int[] warm = {2, 1, 0, 0, 0, 0};
        for (int sundays = 1; sundays <= 6; sundays++) {
            leaves("1;p3,s3;015", sundays, freeze[sundays - 1], warm[sundays - 1], sundays < 3 ? 0 : 1);
        }
        int[] least = {8, 7, 6, 5, 4, 3};
        for (int sundays = 1; sundays <= 6; sundays++) {
            leaves("1;p0,s9;015", sundays, 0, Math.min(2 * sundays, least[sundays - 1]), 1);
        }
    }

    private static void leaveFromNowOn() {
        LastBench x = read("1;p0,p4;015,103");
        x.forgive(0);
        x.sunday();
        x.sunday();
        due("15: he froze before", x.person(0, 4), 2);
        List<Long> before = told(x);
        due("15: what was before does not count", x.leave(1, 0), 0);
        due("15: what is forgiven may be left", x.leave(1, 2), 1);
        due("15: how warm then", x.leave(1, 1), 2);
        due("15: nothing is changed by it", told(x).equals(before) ? 1 : 0, 1);
        x.change(0, 0, 20);
        x.change(1, 0, 19);
        due("15: 20 at most", x.leave(1, 1), 19);
        due("15: nobody need sit", x.leave(6, 1), 14);
        due("15: so one is left", x.leave(6, 2), 2);
        x.room(2);
        due("15: both at 20", x.leave(1, 1), 20);
    }

    private static void leaveTwentyTimes() {
        LastBench x = new LastBench();
        due("15: no chapel", x.leave(1, 0), STATE);
        due("15: that does not count", x.count(12), 0);
        for (int n = 1; n <= 20; n++) {
            if (n % 7 == 1) {
                x.blank();
                spell(x, "1;p3,p4;015,103");
                x.chapel();
                x.image();
            }
            due("15: refused, " + n, x.leave(7, 0), OUTSIDE);
            due("15: refused, too, " + n, x.leave(1, 3), OUTSIDE);
            due("15: taken, " + n, x.leave(1 + n % 6, n % 3) >= 0 ? 1 : 0, 1);
            due("24: how often, " + n, x.count(12), n);
            x.restore();
            due("23: that stays done, " + n, x.count(12), n);
        }
        due("15: the 21st", x.leave(1, 0), STATE);
        due("15: the 22nd", x.leave(6, 2), STATE);
        due("15: the 23rd, outside", x.leave(0, 0), OUTSIDE);
        spell(x, "1;p3,p4;015,103");
        due("5: another chapel", x.chapel(), 2);
        due("15: ever", x.leave(1, 0), STATE);
        due("24: 20 times", x.count(12), 20);
    }

    // ---- promises 16 and 17

    private static void rings() {
        for (int length = 2; length <= 6; length++) {
            for (int first = 0; first + length <= 6; first++) {
                ringOf(first, length);
            }
        }
        due("16: the fewest of two rings, the last", read("1;p1,p1,p1,p1,p1;011,121,201,341,431").ring(), 2);
        due("16: the fewest of two rings, the first", read("1;p1,p1,p1,p1,p1;011,101,231,341,421").ring(), 2);
        due("16: the fewest of two rings in one", read("1;p1,p1,p1,p1;011,121,231,301,201").ring(), 3);
        due("16: the same one twice is no ring", read("1;p1,p1;011,012").ring(), NONE);
        due("16: two ways are no ring", read("1;p1,p1,p1;011,121,021").ring(), NONE);
    }

    /** A ring of so many, from that one on; whoever else is there has nothing to do with it. */
    private static void ringOf(int first, int length) {
        StringBuilder s = new StringBuilder("1;p1,p1,p1,p1,p1,p1;");
        for (int n = 0; n < length; n++) {
            int did = first + n;
            int whom = first + (n + 1) % length;
            s.append(n == 0 ? "" : ",").append(did).append(whom).append(1 + n);
        }
        LastBench x = read(s.toString());
        due("16: a ring of " + length, x.ring(), length);
        due("17: one is enough", x.peace(0), 1);
        due("17: the least", x.peace(1), 1);
        for (int n = 0; n < length; n++) {
            x.forgive(n);
            due("16: broken at " + n, x.ring(), NONE);
            due("17: nothing to forgive", x.peace(0), 0);
            due("17: nothing, as bits", x.peace(1), 0);
            x.again(n, 1);
            due("16: closed at " + n, x.ring(), length);
        }
    }

    private static void peaces(String text, int many, int which) {
        LastBench x = read(text);
        due("17: how many of " + text, x.peace(0), many);
        due("17: which of " + text, x.peace(1), which);
    }

    private static void peaceFewest() {
        peaces("1;p1,p1;011", 0, 0);
        peaces("1;p1,p1;011,012,013,014,015,016,017,108", 1, 128);
        peaces("1;p1,p1;011,102,103,104,105,106,107,108", 1, 1);
        peaces("1;p1,p1;011,012,013,014,105,106,107,108", 4, 15);
        peaces("1;p1,p1;101,012,103,014,105,016,107,018", 4, 85);
        // The first of each two would leave a ring of three.
        peaces("1;p1,p1,p1;011,101,121,211,201,021", 3, 22);
        peaces("1;p1,p1,p1,p1,p1,p1;011,101,231,321,451,541", 3, 21);
        peaces("1;p1,p1,p1;011,121,201,021,211", 2, 6);
    }

    private static void peaceOnlyByWhatIsNotForgiven() {
        LastBench x = read("1;p1,p1;011,012,103,104");
        due("17: the first two", x.peace(1), 3);
        x.forgive(2);
        due("17: then the last", x.peace(1), 8);
        due("17: only one", x.peace(0), 1);
        due("16: the ring is there still", x.ring(), 2);
        due("24: nothing is forgiven by it", x.count(6), 1);
        x.forgive(3);
        due("17: no more", x.peace(1), 0);
        due("17: none", x.peace(0), 0);
    }

    // ---- promise 18

    private static void oddsAre(LastBench x, int person, int tenths, int above, int below) {
        due("18: odds(" + person + ", " + tenths + ", 0)", x.odds(person, tenths, 0), above);
        due("18: odds(" + person + ", " + tenths + ", 1)", x.odds(person, tenths, 1), below);
    }

    private static void oddsOfNothingAndAll() {
        LastBench x = read("3;p1,g1,h1,b1,s1;011,124,204,342,405");
        int[] now = {0, 1, 1, 1, 0};
        int[] allForgiven = {0, 0, 1, 1, 0};
        for (int person = 0; person < 5; person++) {
            due("18: he sits, " + person, x.person(person, 3), now[person]);
            oddsAre(x, person, 0, now[person], 1);
            oddsAre(x, person, 10, allForgiven[person], 1);
        }
        for (int wrong = 0; wrong < 5; wrong++) {
            x.forgive(wrong);
        }
        for (int tenths = 0; tenths <= 10; tenths++) {
            for (int person = 0; person < 5; person++) {
                oddsAre(x, person, tenths, allForgiven[person], 1);
            }
        }
    }

    private static void oddsInLowestTerms() {
        int[][] told = {{1, 1}, {9, 10}, {4, 5}, {7, 10}, {3, 5}, {1, 2}, {2, 5}, {3, 10}, {1, 5}, {1, 10}, {0, 1}};
        LastBench x = read("1;p1,p1;011");
        for (int tenths = 0; tenths <= 10; tenths++) {
            oddsAre(x, 0, tenths, told[tenths][0], told[tenths][1]);
            oddsAre(x, 1, tenths, 0, 1);
        }
        x = read("1;p1,p1;011,011,011,011,011,011,011,011");
        oddsAre(x, 0, 1, 99999999, 100000000);
        oddsAre(x, 0, 9, 56953279, 100000000);
        oddsAre(x, 0, 5, 255, 256);
        oddsAre(x, 0, 2, 390624, 390625);
        oddsAre(x, 0, 0, 1, 1);
        oddsAre(x, 0, 10, 0, 1);
        x.change(0, 1, 1);
        oddsAre(x, 0, 1, 99999927, 100000000);
        x = read("6;p1,p1,p1,p1,b1,b1;011");
        oddsAre(x, 4, 5, 1, 1);
        oddsAre(x, 5, 5, 1, 1);
        oddsAre(x, 3, 5, 0, 1);
        x.room(2);
        oddsAre(x, 0, 3, 7, 10);
        oddsAre(x, 5, 3, 3, 10);
        x = read("1;p1,p1;011,101,011,011,011,011,011,011");
        oddsAre(x, 1, 9, 4782969, 100000000);
    }

    // ---- promises 19 and 20

    private static void seenFills() {
        LastBench x = read("1;p1,p1;015,104");
        for (int round = 0; round < 2; round++) {
            for (int n = 1; n <= 6; n++) {
                due("19: see " + n, x.see(n % 2, n, n >= 2), n);
                due("24: seen " + n, x.count(9), n);
            }
            due("19: the seventh", x.see(0, 1, true), FULL);
            due("19: the seventh of the other", x.see(1, 6, false), FULL);
            due("24: six", x.count(9), 6);
            due("8: wrong 1 is 5 at most", x.wrong(1, 4), 31);
            due("8: wrong 0 can be all", x.wrong(0, 4), 511);
            due("20: six were", x.forget(), 6);
            due("20: none is", x.forget(), 0);
            due("24: none", x.count(9), 0);
            due("8: wrong 1 can be all", x.wrong(1, 4), 511);
        }
        for (int n = 1; n <= 5; n++) {
            x.see(1, 6, true);
        }
        due("19: the sixth counts, too", x.see(1, 1, true), 6);
        due("8: by the sixth", x.wrong(1, 4), 480);
        x.forget();
        due("19: the same twice is two", x.see(0, 1, true) + x.see(0, 1, true), 3);
    }

    /** Only forget(), restore() and another chapel take away what is seen. */
    private static void seenStays() {
        LastBench x = read("1;p1,p1;015,104");
        x.see(1, 1, true);
        x.sunday();
        x.forgive(1);
        x.again(1, 2);
        x.again(0, 7);
        x.room(2);
        x.change(0, 0, 5);
        x.leave(1, 0);
        x.winters(9, 9, 0);
        x.letter(49);
        x.chapel();
        x.blank();
        x.image();
        due("19: it is seen still", x.count(9), 1);
        due("8: by all else as it is now, more than 7", x.wrong(1, 4), 384);
        x.see(1, 1, true);
        due("23: back to the one", x.restore(), 1);
        due("24: one", x.count(9), 1);
        due("20: one was", x.forget(), 1);
        due("23: and back to it", x.restore(), 1);
        due("24: one again", x.count(9), 1);
        due("8: as before", x.wrong(1, 4), 384);
    }

    // ---- promise 21

    /** Winters of each length, against the same done by sunday(), forgive() and again() on another object. */
    private static void wintersAre(String text, int seed) {
        LastBench x = read(text);
        LastBench y = read(text);
        long drawn = seed;
        int freeze = 0;
        for (int day = 1; day <= 60; day++) {
            drawn = (drawn * 1103515245L + 12345L) & 0x7fffffffL;
            int wrong = (int) (drawn / 65536 % text.split(";")[2].split(",").length);
            if (y.forgive(wrong) == STATE) {
                y.again(wrong, y.wrong(wrong, 2));
            }
            freeze += y.sunday();
            due("21: freeze of " + text + " by " + day, x.winters(day, seed, 0), freeze);
            due("21: warm of " + text + " by " + day, x.winters(day, seed, 1), y.count(4));
            due("21: seed of " + text + " by " + day, x.winters(day, seed, 2), drawn);
        }
    }

    private static void wintersOfEachLength() {
        wintersAre("1;p9,p0;015", 0);
        wintersAre("1;p9,p0;015", MAX);
        wintersAre("1;p3,g4,h0;015,104,207", 1);
        wintersAre("6;p0,g9,h0,b9,s0,p5;017,126,235,344,453,502,101,219", 1999999999);
        wintersAre("2;h0,h0,h1,b0,b0;017,126,235,344,432", 65535);
    }

    private static void wintersBySeeds() {
        LastBench x = read("1;p9,p0;015");
        due("21: seed 0", x.winters(1, 0, 2), 12345);
        due("21: seed 1", x.winters(1, 1, 2), 1103527590);
        due("21: seed 2 goes round", x.winters(1, 2, 2), 2 * 1103515245L + 12345 - (1L << 31));
        due("21: the last seed", x.winters(1, MAX, 2), (1L << 31) - 1103515245L + 12345);
        due("21: one behind the other", x.winters(2, 0, 2), x.winters(1, 12345, 2));
        due("21: sixty", x.winters(60, 0, 2), x.winters(59, 12345, 2));
        // One wrong alone: whatever is drawn, it is that one.
        for (int seed : new int[] {0, 1, 65535, 65536, MAX}) {
            due("21: forgiven on the first", x.winters(1, seed, 1), 8);
            due("21: none sits, one freezes", x.winters(1, seed, 0), 1);
            due("21: not forgiven on the second", x.winters(2, seed, 1), 10);
            due("21: sixty in turn", x.winters(60, seed, 1), 20);
            due("21: he is cold on all", x.winters(60, seed, 0), 60);
        }
    }

    private static void wintersOnlyWouldBe() {
        LastBench x = read("2;p0,g1,h2;015,203,121");
        x.sunday();
        x.forgive(1);
        x.image();
        List<Long> before = told(x);
        for (int what = 0; what <= 2; what++) {
            x.winters(60, 77, what);
        }
        due("21: nothing is changed by it", told(x).equals(before) ? 1 : 0, 1);
        x.restore();
        due("21: nor the image", told(x).equals(before) ? 1 : 0, 1);
        due("21: what froze before does not count", x.winters(1, 0, 0) <= 3 ? 1 : 0, 1);
        x = read("6;s0,s0;019");
        x.sunday();
        due("21: two more freeze", x.winters(1, 5, 0), 2);
    }

    // ---- promises 22 and 23

    private interface Deed {
        void on(LastBench x);
    }

    private static LastBench keepable() {
        LastBench x = read("2;p0,g1,h2;015,203,121");
        x.sunday();
        x.forgive(1);
        x.see(2, 2, true);
        return x;
    }

    /** Each of what an image keeps, changed alone, comes back, as often as one likes. */
    private static void imageKeepsEach() {
        Deed[] deeds = {x -> x.room(6), x -> x.change(0, 3, x.person(0, 1)), x -> x.change(2, 2, 20), x -> x.again(0, 9),
            x -> x.forgive(0), x -> x.again(1, 3), LastBench::sunday, x -> x.see(2, 6, false), LastBench::forget,
            x -> { x.forget(); x.see(2, 2, false); }};
        for (int n = 0; n < deeds.length; n++) {
            LastBench x = keepable();
            List<Long> before = told(x);
            due("22: image", x.image(), 1);
            due("22: it changes nothing", told(x).equals(before) ? 1 : 0, 1);
            for (int time = 0; time < 2; time++) {
                deeds[n].on(x);
                due("22: deed " + n + " does something", told(x).equals(before) ? 1 : 0, 0);
                due("23: restore", x.restore(), 1);
                due("23: deed " + n + " is undone", told(x).equals(before) ? 1 : 0, 1);
            }
            due("23: once more", x.restore(), 1);
        }
    }

    private static void imageLatest() {
        LastBench x = keepable();
        due("22: the first", x.image(), 1);
        x.sunday();
        x.room(5);
        List<Long> later = told(x);
        due("22: the second", x.image(), 2);
        x.sunday();
        x.room(1);
        due("23: the latest alone", x.restore(), 2);
        due("23: all of it", told(x).equals(later) ? 1 : 0, 1);
        x.forget();
        due("22: an image of nothing seen", x.image(), 2);
        x.see(0, 3, true);
        x.restore();
        due("23: nothing is seen", x.count(9), 0);
        LastBench fresh = read("1;p3,p4;015");
        due("22: at sunday 0", fresh.image(), 0);
        fresh.sunday();
        due("23: back at sunday 0", fresh.restore(), 0);
        due("23: it is sunday 0", fresh.count(7), 0);
    }

    private static void imageKeepsNoMore() {
        LastBench x = keepable();
        x.letter('1');
        x.image();
        x.letter(';');
        x.leave(1, 0);
        x.restore();
        due("23: the page is as it was", x.count(10), 2);
        due("23: leave stays done", x.count(12), 1);
        due("23: what was read stays read", x.count(11), 1);
        x.chapel();
        due("23: a chapel that is none is no other", x.restore(), 1);
        x.blank();
        spell(x, "2;p0,g1,h2;015,203,121");
        x.chapel();
        due("23: the same text is another chapel", x.restore(), STATE);
        due("23: still", x.restore(), STATE);
        due("22: of this one", x.image(), 0);
        due("23: it goes on from there", x.restore(), 0);
    }

    // ---- promises 24 and 25

    private static void counts() {
        LastBench x = read("6;b9,b9,b9,b9,b9,b9;019,129,239,349,459,509,109,219");
        long[] full = {6, 8, 6, 6, 54, 72, 0, 0, 0, 0, 0, 1, 0};
        for (int what = 0; what <= 12; what++) {
            due("24: full, " + what, x.count(what), full[what]);
        }
        for (int w = 0; w < 8; w++) {
            x.forgive(w);
        }
        due("24: all forgiven", x.count(6), 8);
        due("24: guilt of babies", x.count(5), 6);
        for (int p = 0; p < 6; p++) {
            x.change(p, 0, 20);
        }
        due("24: nobody sits", x.count(3), 0);
        due("24: the warmest", x.count(4), 120);
        for (int n = 0; n < 20; n++) {
            due("24: how warm by " + n, x.count(4), 120 - 6 * n);
            due("24: none froze by " + n, x.count(8), 0);
            x.sunday();
        }
        due("24: all froze", x.count(8), 6);
        due("24: all are cold", x.count(4), 0);
        due("24: sundays", x.count(7), 20);
        for (int n = 2; n <= 5; n++) {
            spell(x, "1;p0,p0;011");
            due("24: letters", x.count(10), 11);
            x.chapel();
            due("24: read", x.count(11), n);
        }
    }

    private static long digestOf(LastBench x, String page) {
        List<Long> numbers = new ArrayList<>();
        for (int p = 0; p < x.count(0); p++) {
            for (int what = 0; what <= 5; what++) {
                numbers.add((long) x.person(p, what));
            }
            numbers.add((long) x.odds(p, 4, 0));
            numbers.add((long) x.odds(p, 4, 1));
        }
        for (int w = 0; w < x.count(1); w++) {
            for (int what = 0; what <= 5; what++) {
                numbers.add((long) x.wrong(w, what));
            }
        }
        if (x.count(2) > 0) {
            for (int number : new int[] {x.to(0, 1), x.to(1, 0), x.ring(), x.peace(0), x.peace(1)}) {
                numbers.add((long) number);
            }
        }
        for (char letter : page.toCharArray()) {
            numbers.add((long) letter);
        }
        for (int what = 0; what <= 12; what++) {
            numbers.add((long) x.count(what));
        }
        long h = 1289;
        for (long number : numbers) {
            h = 31 * h + number;
        }
        return h;
    }

    private static void digests() {
        LastBench x = new LastBench();
        due("25: of none", x.digest(), digestOf(x, ""));
        String page = "";
        for (int n = 1; n <= 54; n++) {
            x.letter(127 - n);
            page += (char) (127 - n);
            due("25: of a page of " + n, x.digest(), digestOf(x, page));
        }
        for (int people = 2; people <= 6; people++) {
            for (int wrongs : new int[] {1, 8}) {
                LastBench y = read(text(people, wrongs));
                due("25: of " + people + " and " + wrongs, y.digest(), digestOf(y, ""));
                y.see(0, 1, true);
                y.see(0, 1, false);
                y.sunday();
                y.letter(126);
                due("25: later, of " + people + " and " + wrongs, y.digest(), digestOf(y, "~"));
                for (int w = 0; w < wrongs; w++) {
                    y.forgive(w);
                }
                y.leave(6, 0);
                due("25: all forgiven, of " + people + " and " + wrongs, y.digest(), digestOf(y, "~"));
                due("25: it changes nothing", y.digest(), y.digest());
            }
        }
    }

    private interface Query {
        long on(LastBench x);
    }

    /** Of any two questions, one behind the other, the second is answered as if there had been no first. */
    private static void tellingLeavesNoTrace() {
        Query[] queries = {x -> x.person(1, 2), x -> x.person(2, 3), x -> x.person(0, 5), x -> x.wrong(0, 4), x -> x.wrong(2, 5), x -> x.to(0, 2),
            LastBench::ring, x -> x.peace(0), x -> x.peace(1), x -> x.odds(0, 0, 0), x -> x.odds(1, 7, 0), x -> x.odds(2, 7, 1),
            x -> x.winters(60, 3, 0), x -> x.winters(3, 4, 1), x -> x.count(3), x -> x.count(4), x -> x.count(5), x -> x.count(8), LastBench::fault,
            LastBench::digest, LastBench::image, x -> x.leave(2, 0), x -> x.leave(6, 1), x -> x.leave(4, 2)};
        Deed[] deeds = {x -> { }, x -> x.change(1, 3, 4), x -> x.room(1), LastBench::sunday, LastBench::restore, x -> x.again(1, 9), x -> x.forgive(2)};
        for (int deed = 0; deed < deeds.length; deed++) {
            for (int second = 0; second < queries.length; second++) {
                LastBench alone = asked(deeds[deed], null);
                long want = queries[second].on(alone);
                for (int first = 0; first < queries.length; first++) {
                    // How often leave() was done is in the digest.
                    if (first < queries.length - 3 || second != 19) {
                        long got = queries[second].on(asked(deeds[deed], queries[first]));
                        due("question " + second + " behind deed " + deed + " and question " + first, got, want);
                    }
                }
            }
        }
    }

    /** The first question is asked ahead of the deed and behind it. */
    private static LastBench asked(Deed deed, Query first) {
        LastBench x = read("2;p0,g1,h2;015,203,126,102");
        x.sunday();
        x.forgive(1);
        x.see(0, 2, true);
        x.image();
        spell(x, "1;q");
        if (first != null) {
            first.on(x);
        }
        deed.on(x);
        if (first != null) {
            first.on(x);
        }
        return x;
    }

    private static void theLastOf512Calls() {
        LastBench x = new LastBench();
        for (int round = 0; round < 9; round++) {
            for (int n = 1; n <= 54; n++) {
                x.letter(64);
            }
            due("3: in round " + round, x.blank(), 54);
        }
        for (int call = 496; call < 511; call++) {
            due("2: call " + call, x.letter(64), call - 495);
        }
        due("3: the 512th call, 15 letters", x.blank(), 15);
        LastBench y = read("6;p0,p0;019");
        for (int call = 13; call < 512; call++) {
            due("10: call " + call, y.sunday(), 1);
        }
        due("10: the 512th call", y.count(7), 499);
    }
}
