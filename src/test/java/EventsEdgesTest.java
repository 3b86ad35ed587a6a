/** The boundary cases of promises 9 to 18, a method for each sentence of the document that names one. */
public final class EventsEdgesTest {
    private static final Check CHECK = new Check("EventsEdgesTest");
    private static final int PLAIN = ScoreHouse.PLAIN, DOTTED = ScoreHouse.DOTTED, TRIPLET = ScoreHouse.TRIPLET;
    private static final int NONE = ScoreHouse.NONE;
    /** The ticks of kinds, for each form; the kind 5 cannot be dotted. */
    private static final int[][] TICKS = {{96, 48, 24, 12, 6, 3}, {144, 72, 36, 18, 9}, {64, 32, 16, 8, 4, 2}};

    public static void main(String[] args) {
        thereAreTheVoices0To3();
        thereAreNoneAtFirst();
        thereAreAtMost16();
        theIndexIs0ToTheNumberThere();
        aNoteHas1To127AndARest0();
        theKindIs0To5();
        theFormIsPlainToTriplet();
        theKind5CannotBeDotted();
        theTicksOfAllKindsAndForms();
        thereAreNeverMoreTicksThanTheBarHas();
        anEventIsPutInWithoutATieAndAMark();
        removeTakesTheFirstAndTheLast();
        aTieIsToldNoMoreOfARest();
        aTieIsOfNotesAlone();
        theMarkIs0To5();
        theTranspositionIsMinus12To12();
        theWrittenPitchIs1To127WhenPutIn();
        theWrittenPitchIs1To127WhenSet();
        theWrittenPitchIs1To127WhenTransposed();
        theLastEventOfAllIsTransposedToo();
        restsAreNotWritten();
        leftIsAllToNone();
        aBarIsRightIfItIsEmpty();
        aBarIsRightIfItIsFull();
        runsOfTripletsAreMultiplesOf6();
        runsAreTheGreatestOnes();
        runsEndWithTheirBar();
        allThatIsToldStaysWithItsEvent();
        CHECK.end();
    }

    private static ScoreHouse withBar(int beats, int unit) {
        ScoreHouse house = new ScoreHouse();
        house.addBar(beats, unit);
        return house;
    }

    /** "There are the voices 0 to 3." */
    private static void thereAreTheVoices0To3() {
        ScoreHouse house = withBar(4, 4);
        for (int voice = 0; voice < 4; voice++) {
            CHECK.same("put in", house.insert(voice, 0, 0, 60 + voice, 0, PLAIN), 0);
            CHECK.same("it is there", house.written(voice, 0, 0), 60 + voice);
            CHECK.yes("it is right", house.isRight(voice, 0));
        }
        for (int voice = 0; voice < 4; voice++) {
            CHECK.same("each has its own", house.events(voice, 0), 1);
            CHECK.same("and takes its own away", house.remove(voice, 0, 0), 96);
            CHECK.same("none then", house.events(voice, 0), 0);
        }
        CHECK.badArgument("voice 4", () -> house.insert(4, 0, 0, 60, 0, PLAIN));
        CHECK.badArgument("voice -1", () -> house.insert(-1, 0, 0, 60, 0, PLAIN));
        CHECK.badArgument("events of voice 4", () -> house.events(4, 0));
        CHECK.badArgument("events of voice -1", () -> house.events(-1, 0));
    }

    /** "a row of events, .. none at first" */
    private static void thereAreNoneAtFirst() {
        ScoreHouse house = new ScoreHouse();
        for (int bar = 0; bar < 24; bar++) {
            house.addBar(4, 4);
        }
        for (int b : new int[] {0, 23}) {
            for (int v = 0; v < 4; v++) {
                int bar = b;
                int voice = v;
                CHECK.same("none", house.events(voice, bar), 0);
                CHECK.same("all is left", house.left(voice, bar), 96);
                CHECK.notThere("remove", () -> house.remove(voice, bar, 0));
                CHECK.notThere("written", () -> house.written(voice, bar, 0));
                CHECK.notThere("setPitch", () -> house.setPitch(voice, bar, 0, 60));
                CHECK.notThere("setTie", () -> house.setTie(voice, bar, 0, true));
                CHECK.notThere("setMark", () -> house.setMark(voice, bar, 0, 1));
            }
        }
    }

    /** "numbered from 0, at most 16": also in each bar and voice, and again when one is taken away. */
    private static void thereAreAtMost16() {
        ScoreHouse house = withBar(4, 4);
        house.addBar(4, 4);
        for (int index = 0; index < 16; index++) {
            CHECK.same("left behind number " + index, house.insert(3, 1, index, 40 + index, 5, PLAIN), 93 - 3 * index);
            CHECK.same("events", house.events(3, 1), index + 1);
        }
        for (int index : new int[] {0, 7, 15, 16}) {
            CHECK.badState("a 17th at " + index, () -> house.insert(3, 1, index, 60, 5, TRIPLET));
        }
        CHECK.same("16 stay", house.events(3, 1), 16);
        CHECK.same("though ticks are left", house.left(3, 1), 48);
        CHECK.same("the first one", house.written(3, 1, 0), 40);
        CHECK.same("the last one", house.written(3, 1, 15), 55);
        CHECK.notThere("number 16", () -> house.written(3, 1, 16));
        CHECK.same("one taken away", house.remove(3, 1, 8), 3);
        CHECK.same("a 16th again", house.insert(3, 1, 15, 99, 1, PLAIN), 3);
        CHECK.badState("a 17th again", () -> house.insert(3, 1, 0, 60, 5, PLAIN));
        CHECK.same("another bar has its own", house.insert(3, 0, 0, 60, 5, PLAIN), 93);
        CHECK.same("another voice has its own", house.insert(2, 1, 0, 60, 5, PLAIN), 93);
    }

    /** "index: 0 to the number of events there: its number then" */
    private static void theIndexIs0ToTheNumberThere() {
        ScoreHouse house = withBar(4, 4);
        CHECK.notThere("1 of none", () -> house.insert(0, 0, 1, 60, 3, PLAIN));
        CHECK.notThere("-1 of none", () -> house.insert(0, 0, -1, 60, 3, PLAIN));
        CHECK.same("0 of none", house.insert(0, 0, 0, 61, 3, PLAIN), 84);
        CHECK.notThere("2 of one", () -> house.insert(0, 0, 2, 60, 3, PLAIN));
        CHECK.notThere("-1 of one", () -> house.insert(0, 0, -1, 60, 3, PLAIN));
        CHECK.same("1 of one", house.insert(0, 0, 1, 62, 3, PLAIN), 72);
        CHECK.same("0 of two", house.insert(0, 0, 0, 63, 3, PLAIN), 60);
        CHECK.same("1 of three", house.insert(0, 0, 1, 64, 3, PLAIN), 48);
        CHECK.same("4 of four", house.insert(0, 0, 4, 65, 3, PLAIN), 36);
        int[] order = {63, 64, 61, 62, 65};
        for (int index = 0; index < order.length; index++) {
            CHECK.same("number " + index, house.written(0, 0, index), order[index]);
        }
        CHECK.notThere("6 of five", () -> house.insert(0, 0, 6, 60, 3, PLAIN));
        CHECK.same("five there", house.events(0, 0), 5);
    }

    /** "a note with a pitch, 1 to 127, or a rest, told as the pitch 0" */
    private static void aNoteHas1To127AndARest0() {
        ScoreHouse house = withBar(4, 4);
        house.insert(0, 0, 0, 0, 3, PLAIN);
        house.insert(0, 0, 1, 1, 3, PLAIN);
        house.insert(0, 0, 2, 127, 3, PLAIN);
        CHECK.badArgument("-1", () -> house.insert(0, 0, 3, -1, 3, PLAIN));
        CHECK.badArgument("128", () -> house.insert(0, 0, 3, 128, 3, PLAIN));
        CHECK.same("three are there", house.events(0, 0), 3);
        CHECK.same("0 is a rest", house.written(0, 0, 0), NONE);
        CHECK.same("1 is a note", house.written(0, 0, 1), 1);
        CHECK.same("127 is a note", house.written(0, 0, 2), 127);
        CHECK.same("two sounds", house.sounds(), 2);
        CHECK.same("the lowest", house.soundPitch(0), 1);
        CHECK.same("the highest", house.soundPitch(1), 127);
        CHECK.same("set to 127", house.setPitch(0, 0, 1, 127), 1);
        CHECK.same("set to 1", house.setPitch(0, 0, 1, 1), 127);
        CHECK.same("set to 0", house.setPitch(0, 0, 1, 0), 1);
        CHECK.badArgument("set to -1", () -> house.setPitch(0, 0, 1, -1));
        CHECK.badArgument("set to 128", () -> house.setPitch(0, 0, 1, 128));
        CHECK.same("still a rest", house.setPitch(0, 0, 1, 5), 0);
    }

    /** "a kind, 0 to 5" */
    private static void theKindIs0To5() {
        ScoreHouse house = withBar(9, 2);
        CHECK.same("0", house.insert(0, 0, 0, 60, 0, PLAIN), 432 - 96);
        CHECK.same("5", house.insert(0, 0, 1, 60, 5, PLAIN), 432 - 99);
        for (int form = PLAIN; form <= TRIPLET; form++) {
            int asked = form;
            CHECK.badArgument("-1", () -> house.insert(0, 0, 0, 60, -1, asked));
            CHECK.badArgument("6", () -> house.insert(0, 0, 0, 60, 6, asked));
        }
        CHECK.same("two are there", house.events(0, 0), 2);
    }

    /** "form: PLAIN to TRIPLET" */
    private static void theFormIsPlainToTriplet() {
        ScoreHouse house = withBar(9, 2);
        CHECK.same("PLAIN", house.insert(0, 0, 0, 60, 4, 0), 426);
        CHECK.same("DOTTED", house.insert(0, 0, 0, 60, 4, 1), 417);
        CHECK.same("TRIPLET", house.insert(0, 0, 0, 60, 4, 2), 413);
        CHECK.badArgument("-1", () -> house.insert(0, 0, 0, 60, 4, -1));
        CHECK.badArgument("3", () -> house.insert(0, 0, 0, 60, 4, 3));
        CHECK.same("three are there", house.events(0, 0), 3);
    }

    /** "a DOTTED one .. which the kind 5 cannot have" */
    private static void theKind5CannotBeDotted() {
        ScoreHouse house = withBar(4, 4);
        CHECK.badArgument("a note", () -> house.insert(0, 0, 0, 60, 5, DOTTED));
        CHECK.badArgument("a rest", () -> house.insert(0, 0, 0, 0, 5, DOTTED));
        CHECK.same("the kind 4 can", house.insert(0, 0, 0, 60, 4, DOTTED), 87);
        CHECK.same("the kind 5 can be plain", house.insert(0, 0, 0, 60, 5, PLAIN), 84);
        CHECK.same("the kind 5 can be a triplet", house.insert(0, 0, 0, 60, 5, TRIPLET), 82);
        CHECK.same("three are there", house.events(0, 0), 3);
    }

    private static void theTicksOfAllKindsAndForms() {
        ScoreHouse house = withBar(9, 2);
        for (int form = PLAIN; form <= TRIPLET; form++) {
            for (int kind = 0; kind < TICKS[form].length; kind++) {
                int ticks = TICKS[form][kind];
                CHECK.same("left", house.insert(0, 0, 0, kind % 2 * 60, kind, form), 432 - ticks);
                CHECK.same("taken away", house.remove(0, 0, 0), ticks);
                CHECK.same("left again", house.left(0, 0), 432);
            }
        }
    }

    /** "The events of a voice in a bar never have more ticks together than the bar": just as many, and one more. */
    private static void thereAreNeverMoreTicksThanTheBarHas() {
        ScoreHouse house = withBar(1, 8);
        CHECK.same("9 of 12", house.insert(0, 0, 0, 60, 4, DOTTED), 3);
        CHECK.badState("4 where 3 are left", () -> house.insert(0, 0, 1, 60, 4, TRIPLET));
        CHECK.same("2 where 3 are left", house.insert(0, 0, 1, 60, 5, TRIPLET), 1);
        CHECK.badState("2 where 1 is left", () -> house.insert(0, 0, 2, 60, 5, TRIPLET));
        CHECK.same("2 are there", house.events(0, 0), 2);
        house.remove(0, 0, 1);
        CHECK.same("3 where 3 are left", house.insert(0, 0, 0, 60, 5, PLAIN), 0);
        CHECK.badState("2 where none is left", () -> house.insert(0, 0, 0, 0, 5, TRIPLET));
        CHECK.badState("16 into 12", () -> house.insert(1, 0, 0, 60, 2, TRIPLET));
        CHECK.same("12 into 12", house.insert(1, 0, 0, 60, 3, PLAIN), 0);
        CHECK.badState("18 into 12", () -> house.insert(2, 0, 0, 60, 3, DOTTED));
        CHECK.same("still empty", house.events(2, 0), 0);
        ScoreHouse longest = withBar(9, 2);
        CHECK.same("144 of 432", longest.insert(0, 0, 0, 60, 0, DOTTED), 288);
        CHECK.same("288 of 432", longest.insert(0, 0, 0, 60, 0, DOTTED), 144);
        CHECK.same("432 of 432", longest.insert(0, 0, 0, 60, 0, DOTTED), 0);
        CHECK.badState("434 of 432", () -> longest.insert(0, 0, 3, 60, 5, TRIPLET));
        longest.remove(0, 0, 1);
        longest.insert(0, 0, 1, 60, 5, TRIPLET);
        CHECK.badState("144 where 142 are left", () -> longest.insert(0, 0, 1, 60, 0, DOTTED));
        CHECK.same("the refused one is not there", longest.left(0, 0), 142);
    }

    /** "without a tie and a mark": also where one with both was. */
    private static void anEventIsPutInWithoutATieAndAMark() {
        ScoreHouse house = withBar(4, 4);
        house.insert(0, 0, 0, 60, 2, PLAIN);
        house.setTie(0, 0, 0, true);
        house.setMark(0, 0, 0, 5);
        house.remove(0, 0, 0);
        house.insert(0, 0, 0, 60, 2, PLAIN);
        CHECK.no("no tie", house.setTie(0, 0, 0, false));
        CHECK.same("no mark", house.setMark(0, 0, 0, NONE), NONE);
    }

    private static void removeTakesTheFirstAndTheLast() {
        ScoreHouse house = withBar(4, 4);
        for (int index = 0; index < 16; index++) {
            house.insert(0, 0, index, 40 + index, 4, PLAIN);
        }
        CHECK.same("full of 16", house.left(0, 0), 0);
        CHECK.notThere("number 16", () -> house.remove(0, 0, 16));
        CHECK.notThere("number -1", () -> house.remove(0, 0, -1));
        CHECK.same("the last one", house.remove(0, 0, 15), 6);
        CHECK.notThere("number 15 then", () -> house.remove(0, 0, 15));
        CHECK.same("the first one", house.remove(0, 0, 0), 6);
        CHECK.same("those behind go ahead", house.written(0, 0, 0), 41);
        CHECK.same("the last one now", house.written(0, 0, 13), 54);
        for (int index = 13; index >= 0; index--) {
            CHECK.same("another one", house.remove(0, 0, 0), 6);
        }
        CHECK.notThere("of none", () -> house.remove(0, 0, 0));
        CHECK.same("all is left", house.left(0, 0), 96);
        CHECK.yes("empty, so right", house.isRight(0, 0));
    }

    /** "its tie is told no more, if it becomes a rest" */
    private static void aTieIsToldNoMoreOfARest() {
        ScoreHouse house = withBar(4, 4);
        house.insert(0, 0, 0, 60, 2, PLAIN);
        house.insert(0, 0, 1, 60, 2, PLAIN);
        house.setTie(0, 0, 0, true);
        house.setPitch(0, 0, 0, 1);
        CHECK.yes("the lowest note keeps it", house.setTie(0, 0, 0, true));
        house.setPitch(0, 0, 0, 60);
        CHECK.same("tied", house.sounds(), 1);
        house.setPitch(0, 0, 0, 0);
        house.setPitch(0, 0, 0, 60);
        CHECK.same("told no more", house.sounds(), 2);
        CHECK.no("told no more", house.setTie(0, 0, 0, true));
        house.setPitch(0, 0, 1, 0);
        house.setPitch(0, 0, 1, 60);
        CHECK.yes("that of the one ahead is", house.setTie(0, 0, 0, true));
    }

    /** "if it is a rest": both to tie and not to; a note of the pitch 1 is none. */
    private static void aTieIsOfNotesAlone() {
        ScoreHouse house = withBar(4, 4);
        house.insert(0, 0, 0, 0, 2, PLAIN);
        house.insert(0, 0, 1, 1, 2, PLAIN);
        house.insert(0, 0, 2, 127, 2, PLAIN);
        CHECK.badState("a rest tied", () -> house.setTie(0, 0, 0, true));
        CHECK.badState("a rest not tied", () -> house.setTie(0, 0, 0, false));
        CHECK.no("the lowest note", house.setTie(0, 0, 1, true));
        CHECK.no("the highest note", house.setTie(0, 0, 2, true));
        CHECK.yes("the last event can be tied, too", house.setTie(0, 0, 2, true));
        CHECK.notThere("number 3", () -> house.setTie(0, 0, 3, true));
        CHECK.notThere("number -1", () -> house.setTie(0, 0, -1, true));
    }

    /** "a mark, .. 0 to 5" or NONE, of notes and of rests. */
    private static void theMarkIs0To5() {
        ScoreHouse house = withBar(4, 4);
        house.insert(0, 0, 0, 60, 2, PLAIN);
        house.insert(0, 0, 1, 0, 2, PLAIN);
        for (int index = 0; index < 2; index++) {
            int asked = index;
            int before = NONE;
            for (int mark = 0; mark <= 5; mark++) {
                CHECK.same("mark before", house.setMark(0, 0, index, mark), before);
                before = mark;
            }
            CHECK.badArgument("6", () -> house.setMark(0, 0, asked, 6));
            CHECK.badArgument("-2", () -> house.setMark(0, 0, asked, -2));
            CHECK.same("still 5", house.setMark(0, 0, index, NONE), 5);
            CHECK.same("none any more", house.setMark(0, 0, index, NONE), NONE);
        }
        CHECK.notThere("number 2", () -> house.setMark(0, 0, 2, 0));
        CHECK.notThere("number -1", () -> house.setMark(0, 0, -1, 0));
    }

    /** "by: -12 to 12", "at first 0" */
    private static void theTranspositionIsMinus12To12() {
        ScoreHouse house = withBar(4, 4);
        for (int v = 0; v < 4; v++) {
            int voice = v;
            house.insert(voice, 0, 0, 60, 0, PLAIN);
            CHECK.same("at first", house.transpose(voice, -12), 0);
            CHECK.same("written", house.written(voice, 0, 0), 48);
            CHECK.badArgument("-13", () -> house.transpose(voice, -13));
            CHECK.badArgument("13", () -> house.transpose(voice, 13));
            CHECK.same("by -12", house.transpose(voice, 12), -12);
            CHECK.same("written", house.written(voice, 0, 0), 72);
            CHECK.badArgument("13 again", () -> house.transpose(voice, 13));
            CHECK.same("by 12, and not both together", house.transpose(voice, 0), 12);
            CHECK.same("written as played", house.written(voice, 0, 0), 60);
        }
        CHECK.badArgument("voice 4", () -> house.transpose(4, 0));
        CHECK.badArgument("voice -1", () -> house.transpose(-1, 0));
    }

    /** "the written pitch .. must always be 1 to 127" */
    private static void theWrittenPitchIs1To127WhenPutIn() {
        ScoreHouse house = withBar(9, 2);
        house.addBar(9, 2);
        for (int b = -12; b <= 12; b++) {
            int by = b;
            // Rests alone are there, so it can be transposed by all.
            house.transpose(0, by);
            int lowest = Math.max(1, 1 - by);
            int highest = Math.min(127, 127 - by);
            house.insert(0, 0, 0, lowest, 5, PLAIN);
            house.insert(0, 0, 1, highest, 5, PLAIN);
            CHECK.same("lowest by " + by, house.written(0, 0, 0), Math.max(1, 1 + by));
            CHECK.same("highest by " + by, house.written(0, 0, 1), Math.min(127, 127 + by));
            if (by < 0) {
                CHECK.badState("written 0", () -> house.insert(0, 0, 0, -by, 5, PLAIN));
            } else if (by > 0) {
                CHECK.badState("written 128", () -> house.insert(0, 0, 0, 128 - by, 5, PLAIN));
            }
            CHECK.same("a rest by " + by, house.insert(0, 0, 0, 0, 5, PLAIN), 432 - 9);
            house.remove(0, 0, 2);
            house.remove(0, 0, 1);
            house.remove(0, 0, 0);
        }
    }

    private static void theWrittenPitchIs1To127WhenSet() {
        ScoreHouse house = withBar(4, 4);
        house.insert(0, 0, 0, 60, 0, PLAIN);
        house.transpose(0, 12);
        CHECK.badState("written 128", () -> house.setPitch(0, 0, 0, 116));
        CHECK.badState("written 139", () -> house.setPitch(0, 0, 0, 127));
        CHECK.same("written 127", house.setPitch(0, 0, 0, 115), 60);
        CHECK.same("written 13", house.setPitch(0, 0, 0, 1), 115);
        house.setPitch(0, 0, 0, 60);
        house.transpose(0, -12);
        CHECK.badState("written 0", () -> house.setPitch(0, 0, 0, 12));
        CHECK.badState("written -11", () -> house.setPitch(0, 0, 0, 1));
        CHECK.same("written 1", house.setPitch(0, 0, 0, 13), 60);
        CHECK.same("written 115", house.setPitch(0, 0, 0, 127), 13);
        CHECK.same("a rest", house.setPitch(0, 0, 0, 0), 127);
        CHECK.badState("a rest to what is written 0", () -> house.setPitch(0, 0, 0, 12));
        CHECK.same("still a rest", house.setPitch(0, 0, 0, 20), 0);
    }

    private static void theWrittenPitchIs1To127WhenTransposed() {
        for (int d = 1; d <= 12; d++) {
            int by = d;
            ScoreHouse house = withBar(4, 4);
            house.insert(0, 0, 0, 127 - by, 2, PLAIN);
            house.insert(1, 0, 0, 1 + by, 2, PLAIN);
            CHECK.same("written 127", house.transpose(0, by), 0);
            CHECK.same("written 1", house.transpose(1, -by), 0);
            if (by < 12) {
                CHECK.badState("written 128", () -> house.transpose(0, by + 1));
                CHECK.badState("written 0", () -> house.transpose(1, -by - 1));
            }
            CHECK.same("as before", house.written(0, 0, 0), 127);
            CHECK.same("as before", house.written(1, 0, 0), 1);
            CHECK.same("by as much as before", house.transpose(0, 0), by);
            CHECK.same("by as much as before", house.transpose(1, 0), -by);
        }
        ScoreHouse both = withBar(4, 4);
        both.insert(0, 0, 0, 1, 2, PLAIN);
        both.insert(0, 0, 1, 127, 2, PLAIN);
        CHECK.badState("written 2 and 128", () -> both.transpose(0, 1));
        CHECK.badState("written 0 and 126", () -> both.transpose(0, -1));
        CHECK.same("by 0", both.transpose(0, 0), 0);
        CHECK.same("notes of another voice do not matter", both.transpose(1, 12), 0);
        both.remove(0, 0, 1);
        CHECK.same("taken away, so it is not written", both.transpose(0, 12), 0);
    }

    private static void theLastEventOfAllIsTransposedToo() {
        ScoreHouse house = new ScoreHouse();
        for (int bar = 0; bar < 24; bar++) {
            house.addBar(4, 4);
        }
        for (int index = 0; index < 16; index++) {
            house.insert(3, 23, index, index == 15 ? 127 : 0, 4, PLAIN);
        }
        CHECK.badState("the 16th event of the bar 23", () -> house.transpose(3, 1));
        CHECK.same("not transposed", house.written(3, 23, 15), 127);
        house.setPitch(3, 23, 15, 126);
        CHECK.same("now it can be", house.transpose(3, 1), 0);
        CHECK.same("written", house.written(3, 23, 15), 127);
    }

    /** "NONE for a rest" */
    private static void restsAreNotWritten() {
        ScoreHouse house = withBar(4, 4);
        house.insert(0, 0, 0, 0, 2, PLAIN);
        house.insert(0, 0, 1, 12, 2, PLAIN);
        for (int by : new int[] {-12 + 1, 0, 12}) {
            house.transpose(0, by);
            CHECK.same("a rest", house.written(0, 0, 0), NONE);
            CHECK.same("a note", house.written(0, 0, 1), 12 + by);
        }
        CHECK.notThere("number 2", () -> house.written(0, 0, 2));
        CHECK.notThere("number -1", () -> house.written(0, 0, -1));
    }

    private static void leftIsAllToNone() {
        ScoreHouse house = withBar(1, 8);
        CHECK.same("all", house.left(0, 0), 12);
        house.insert(0, 0, 0, 60, 3, PLAIN);
        CHECK.same("none", house.left(0, 0), 0);
        house.setMetre(0, 9, 2);
        CHECK.same("of a longer bar", house.left(0, 0), 420);
        CHECK.same("all of a longer bar", house.left(3, 0), 432);
        CHECK.notThere("bar 1", () -> house.left(0, 1));
        CHECK.notThere("bar -1", () -> house.left(0, -1));
    }

    /** "It is right in a voice, if it is empty" */
    private static void aBarIsRightIfItIsEmpty() {
        ScoreHouse house = withBar(1, 8);
        for (int voice = 0; voice < 4; voice++) {
            CHECK.yes("empty", house.isRight(voice, 0));
        }
        house.insert(0, 0, 0, 60, 5, TRIPLET);
        CHECK.no("one event", house.isRight(0, 0));
        CHECK.yes("empty in another voice", house.isRight(1, 0));
        house.remove(0, 0, 0);
        CHECK.yes("empty again", house.isRight(0, 0));
    }

    /** "or if its events have as many ticks as the bar": one less, and just as many. */
    private static void aBarIsRightIfItIsFull() {
        ScoreHouse house = withBar(1, 8);
        house.insert(0, 0, 0, 60, 4, DOTTED);
        CHECK.no("9 of 12", house.isRight(0, 0));
        house.insert(0, 0, 1, 60, 5, PLAIN);
        CHECK.yes("12 of 12", house.isRight(0, 0));
        ScoreHouse rests = withBar(9, 2);
        for (int event = 0; event < 3; event++) {
            CHECK.yes("of rests, " + event, event == 0 || !rests.isRight(0, 0));
            rests.insert(0, 0, event, 0, 0, DOTTED);
        }
        CHECK.yes("full of rests", rests.isRight(0, 0));
        // Without a wrong run all ticks are multiples of 3, so 3 are the fewest that can be missing.
        ScoreHouse near = withBar(5, 8);
        near.insert(0, 0, 0, 60, 1, PLAIN);
        near.insert(0, 0, 1, 60, 4, DOTTED);
        CHECK.no("57 of 60", near.isRight(0, 0));
        near.insert(0, 0, 2, 60, 5, TRIPLET);
        CHECK.same("one tick is missing", near.left(0, 0), 1);
        CHECK.no("59 of 60", near.isRight(0, 0));
        near.remove(0, 0, 2);
        near.insert(0, 0, 2, 60, 5, PLAIN);
        CHECK.yes("60 of 60", near.isRight(0, 0));
        near.setMetre(0, 3, 4);
        CHECK.no("60 of 72", near.isRight(0, 0));
    }

    private static void fill(ScoreHouse house, int voice, int... kindsAndForms) {
        while (house.events(voice, 0) > 0) {
            house.remove(voice, 0, 0);
        }
        for (int i = 0; i < kindsAndForms.length; i += 2) {
            house.insert(voice, 0, i / 2, i % 4 == 0 ? 60 : 0, kindsAndForms[i], kindsAndForms[i + 1]);
        }
        CHECK.same("it is full", house.left(voice, 0), 0);
    }

    /** "each greatest run of triplets one behind the other in it has a number of ticks that is a multiple of 6" */
    private static void runsOfTripletsAreMultiplesOf6() {
        ScoreHouse house = withBar(1, 4);
        fill(house, 0, 2, PLAIN);
        CHECK.yes("no triplets", house.isRight(0, 0));
        fill(house, 0, 5, TRIPLET, 5, TRIPLET, 5, TRIPLET, 3, DOTTED);
        CHECK.yes("a run of 6 at the beginning", house.isRight(0, 0));
        fill(house, 0, 3, DOTTED, 4, TRIPLET, 5, TRIPLET);
        CHECK.yes("a run of 6 at the end", house.isRight(0, 0));
        fill(house, 0, 3, PLAIN, 5, TRIPLET, 4, TRIPLET, 4, PLAIN);
        CHECK.yes("a run of 6 between", house.isRight(0, 0));
        fill(house, 0, 3, TRIPLET, 3, TRIPLET, 3, TRIPLET);
        CHECK.yes("a run of 24", house.isRight(0, 0));
        fill(house, 0, 3, PLAIN, 4, TRIPLET, 3, TRIPLET);
        CHECK.yes("a run of 12", house.isRight(0, 0));
        house.setMetre(0, 2, 4);
        // 48 ticks: a run of 2 or 4 alone can never be in a bar that is full, so there are two or more.
        fill(house, 0, 5, TRIPLET, 1, TRIPLET, 4, PLAIN, 3, TRIPLET);
        CHECK.no("runs of 34 and 8", house.isRight(0, 0));
        fill(house, 0, 5, TRIPLET, 2, DOTTED, 4, PLAIN, 4, TRIPLET);
        CHECK.no("runs of 2 and 4, one at each end", house.isRight(0, 0));
        fill(house, 0, 4, TRIPLET, 2, DOTTED, 4, PLAIN, 5, TRIPLET);
        CHECK.no("runs of 4 and 2", house.isRight(0, 0));
        fill(house, 0, 2, PLAIN, 5, TRIPLET, 4, PLAIN, 3, TRIPLET, 3, TRIPLET);
        CHECK.no("runs of 2 and 16", house.isRight(0, 0));
        fill(house, 0, 2, PLAIN, 5, TRIPLET, 4, TRIPLET, 4, PLAIN, 4, TRIPLET, 3, TRIPLET);
        CHECK.yes("runs of 6 and 12", house.isRight(0, 0));
    }

    /** A run goes on over rests that are triplets, and is parted by what is none, be it as short as it may. */
    private static void runsAreTheGreatestOnes() {
        ScoreHouse house = withBar(1, 4);
        fill(house, 0, 4, TRIPLET, 5, PLAIN, 5, TRIPLET, 3, PLAIN, 5, PLAIN);
        CHECK.no("runs of 4 and 2, parted by 3", house.isRight(0, 0));
        fill(house, 0, 4, TRIPLET, 5, TRIPLET, 5, PLAIN, 3, PLAIN, 5, PLAIN);
        CHECK.yes("the same as one run", house.isRight(0, 0));
        fill(house, 0, 3, TRIPLET, 3, TRIPLET, 3, TRIPLET);
        house.setPitch(0, 0, 0, 0);
        house.setPitch(0, 0, 1, 0);
        CHECK.yes("rests in a run", house.isRight(0, 0));
        fill(house, 0, 3, TRIPLET, 5, TRIPLET, 4, DOTTED, 5, PLAIN, 5, TRIPLET);
        CHECK.no("parted by a dotted one", house.isRight(0, 0));
    }

    /** "one behind the other in it": runs of two bars are not one. */
    private static void runsEndWithTheirBar() {
        ScoreHouse house = withBar(1, 4);
        house.addBar(1, 4);
        fill(house, 0, 3, DOTTED, 5, TRIPLET, 4, TRIPLET);
        house.insert(0, 1, 0, 60, 5, TRIPLET);
        house.insert(0, 1, 1, 60, 3, DOTTED);
        house.insert(0, 1, 2, 60, 4, TRIPLET);
        CHECK.yes("a run at the end of its bar", house.isRight(0, 0));
        CHECK.no("runs of 2 and 4 in the next", house.isRight(0, 1));
        house.remove(0, 0, 2);
        CHECK.no("a run of 2, and not full", house.isRight(0, 0));
        CHECK.yes("another voice", house.isRight(1, 1));
    }

    /** "All that is told of an event stays with it, when others are put in or taken away ahead of it." */
    private static void allThatIsToldStaysWithItsEvent() {
        ScoreHouse house = withBar(4, 4);
        house.insert(0, 0, 0, 60, 3, DOTTED);
        house.insert(0, 0, 1, 60, 3, DOTTED);
        house.insert(0, 0, 2, 61, 3, PLAIN);
        house.setTie(0, 0, 0, true);
        house.setMark(0, 0, 0, 5);
        house.addPhrase(0, 0, 0, 0, 2);
        for (int ahead = 0; ahead < 13; ahead++) {
            house.insert(0, 0, 0, 70, 5, PLAIN);
        }
        CHECK.same("16 there", house.events(0, 0), 16);
        CHECK.same("its pitch", house.written(0, 0, 13), 60);
        CHECK.yes("its tie", house.setTie(0, 0, 13, true));
        CHECK.same("its mark", house.setMark(0, 0, 13, 5), 5);
        CHECK.same("15 sounds, as the tie counts", house.sounds(), 15);
        CHECK.no("no tie of the one ahead", house.setTie(0, 0, 12, false));
        CHECK.same("no mark of the one ahead", house.setMark(0, 0, 12, NONE), NONE);
        CHECK.no("no tie of the one behind", house.setTie(0, 0, 14, false));
        for (int ahead = 0; ahead < 13; ahead++) {
            CHECK.same("taken away ahead", house.remove(0, 0, 0), 3);
        }
        CHECK.yes("its tie again", house.setTie(0, 0, 0, true));
        CHECK.same("its mark again", house.setMark(0, 0, 0, 5), 5);
        CHECK.same("its phrase", house.phrases(), 1);
        CHECK.same("its ticks", house.remove(0, 0, 0), 18);
        CHECK.same("and that is gone with it", house.phrases(), 0);
    }
}
