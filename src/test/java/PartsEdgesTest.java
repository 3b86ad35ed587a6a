/** The boundary cases of promises 36 to 42, a method for each sentence of the document that names one. */
public final class PartsEdgesTest {
    private static final ScoreCheck CHECK = new ScoreCheck("PartsEdgesTest");
    private static final int PLAIN = ScoreHouse.PLAIN, DOTTED = ScoreHouse.DOTTED, TRIPLET = ScoreHouse.TRIPLET;
    private static final int BAR = ScoreHouse.BAR, REST = ScoreHouse.REST, CUE = ScoreHouse.CUE;
    private static final int NONE = ScoreHouse.NONE;

    public static void main(String[] args) {
        aPartIsDrawnIfAllItsBarsAreRight();
        aPartIsNotDrawnIfItsTripletsAreWrong();
        whatOtherVoicesHaveDoesNotMatter();
        asFewAndAsManyItemsAsThereCanBe();
        aBarThatIsNotEmptyIsAnItem();
        emptyBarsAreJoinedToAnItem();
        aNewRestIfTheMetreIsAnother();
        aNewRestIfATempoIsTold();
        aNewRestIfARepeatBegins();
        aNewRestIfARepeatEndsAhead();
        aNewRestIfTheEndingsBegin();
        noNewRestWithoutEndings();
        aCueIfARestWouldHave4Bars();
        aRestOfFourIsCountedAsItIsJoined();
        aCueOnlyIfTheBarBehindIsNotEmpty();
        aCueOnlyIfAnotherVoiceIsNotEmptyInItsBar();
        theLowestVoiceIsTheCue();
        aVoiceOfRestsThatIsNotRightIsACue();
        theCueIsNoneOfOtherItems();
        theSignsOfTheBar0();
        theSignsOfAnotherMetre();
        theSignsOfATempo();
        theSignsOfRepeats();
        theSignsOfAllBarsOfARest();
        theWidthOfEventsIsByTheirTicks();
        theWidthOfDottedOnes();
        theWidthOfMarks();
        theWidthOfMarksSideBySide();
        theWidthOfRests();
        theWidthOfCuesIsByTheirTicks();
        theWidestBar();
        CHECK.end();
    }

    private static int[] item(int kind, int bar, int bars) {
        return new int[] {kind, bar, bars, NONE};
    }

    private static int[] cue(int bar, int voice) {
        return new int[] {CUE, bar, 1, voice};
    }

    private static void notDrawn(ScoreHouse house, String what, int voice) {
        CHECK.badState(what + ": items", () -> house.items(voice));
        CHECK.badState(what + ": itemWidth", () -> house.itemWidth(voice, 0));
        CHECK.badState(what + ": lines", () -> house.lines(voice));
        CHECK.badState(what + ": pages", () -> house.pages(voice));
        CHECK.badState(what + ": sheets", () -> house.sheets(voice));
    }

    /** "if .. all bars are right in this voice": the first one, one between, the last one. */
    private static void aPartIsDrawnIfAllItsBarsAreRight() {
        for (int bar : new int[] {0, 11, 23}) {
            ScoreHouse house = Scores.withBars(24, 2, 4);
            house.insert(2, bar, 0, 60, 2, PLAIN);
            notDrawn(house, "half of bar " + bar, 2);
            house.insert(2, bar, 1, 60, 3, DOTTED);
            notDrawn(house, "nearly all of bar " + bar, 2);
            house.insert(2, bar, 2, 60, 5, PLAIN);
            notDrawn(house, "all of bar " + bar + " but 3 ticks", 2);
            house.insert(2, bar, 3, 60, 5, PLAIN);
            CHECK.yes("all of it", house.items(2) >= 2);
            house.remove(2, bar, 0);
            notDrawn(house, "not all again", 2);
            house.setMetre(bar, 1, 4);
            CHECK.yes("all of a shorter bar", house.items(2) >= 2);
            for (int index = 2; index >= 0; index--) {
                house.remove(2, bar, index);
            }
            CHECK.yes("empty", house.items(2) >= 1);
        }
    }

    private static void aPartIsNotDrawnIfItsTripletsAreWrong() {
        ScoreHouse house = Scores.withBars(2, 2, 4);
        house.insert(0, 1, 0, 60, 5, TRIPLET);
        house.insert(0, 1, 1, 60, 2, PLAIN);
        house.insert(0, 1, 2, 60, 3, DOTTED);
        house.insert(0, 1, 3, 60, 4, TRIPLET);
        CHECK.same("it is full", house.left(0, 1), 0);
        notDrawn(house, "runs of 2 and 4", 0);
        house.remove(0, 1, 0);
        house.insert(0, 1, 2, 60, 5, TRIPLET);
        CHECK.same("a run of 6", house.items(0), 2);
    }

    private static void whatOtherVoicesHaveDoesNotMatter() {
        ScoreHouse house = Scores.withBars(2, 2, 4);
        for (int voice = 0; voice < 3; voice++) {
            house.insert(voice, voice % 2, 0, 60, 5, TRIPLET);
            notDrawn(house, "a voice that is not right", voice);
        }
        CHECK.sameItems(house, "the voice 3", 3, item(REST, 0, 2));
        house.insert(3, 0, 0, 60, 5, PLAIN);
        notDrawn(house, "the voice 3 now", 3);
        house.remove(1, 1, 0);
        CHECK.sameItems(house, "the voice 1 again", 1, item(REST, 0, 2));
    }

    private static void asFewAndAsManyItemsAsThereCanBe() {
        ScoreHouse house = Scores.withBars(1, 2, 4);
        CHECK.sameItems(house, "an empty bar", 0, item(REST, 0, 1));
        Scores.fillBar(house, 0, 0);
        CHECK.sameItems(house, "a bar", 0, item(BAR, 0, 1));
        ScoreHouse most = Scores.withBars(24, 2, 4);
        CHECK.sameItems(most, "24 empty bars", 0, item(REST, 0, 24));
        int[][] all = new int[24][];
        for (int bar = 0; bar < 24; bar++) {
            Scores.fillBar(most, 0, bar);
            all[bar] = item(BAR, bar, 1);
        }
        CHECK.sameItems(most, "24 bars", 0, all);
        for (int bar = 0; bar < 24; bar++) {
            most.setTempo(bar, 100);
            all[bar] = item(REST, bar, 1);
        }
        CHECK.sameItems(most, "24 rests", 1, all);
    }

    /** "A bar that is not empty is an item": one of rests alone too. */
    private static void aBarThatIsNotEmptyIsAnItem() {
        ScoreHouse house = Scores.withBars(3, 2, 4);
        for (int bar = 0; bar < 3; bar++) {
            house.insert(0, bar, 0, 0, 1, PLAIN);
        }
        CHECK.sameItems(house, "bars of rests", 0, item(BAR, 0, 1), item(BAR, 1, 1), item(BAR, 2, 1));
        house.remove(0, 1, 0);
        CHECK.sameItems(house, "one is empty", 0, item(BAR, 0, 1), item(REST, 1, 1), item(BAR, 2, 1));
    }

    /** "Empty bars one behind the other are joined to an item" */
    private static void emptyBarsAreJoinedToAnItem() {
        ScoreHouse house = Scores.withBars(24, 2, 4);
        Scores.fillBar(house, 0, 1);
        Scores.fillBar(house, 0, 22);
        CHECK.sameItems(house, "one, 20 and one", 0,
                item(REST, 0, 1), item(BAR, 1, 1), item(REST, 2, 20), item(BAR, 22, 1), item(REST, 23, 1));
        house.remove(0, 1, 0);
        CHECK.sameItems(house, "22 and one", 0, item(REST, 0, 22), item(BAR, 22, 1), item(REST, 23, 1));
        house.remove(0, 22, 0);
        CHECK.sameItems(house, "24", 0, item(REST, 0, 24));
    }

    /** Bars that are joined, but for a new rest at each of these. */
    private static void sameRests(ScoreHouse house, String what, int... newOnes) {
        int[][] items = new int[newOnes.length + 1][];
        for (int i = 0; i <= newOnes.length; i++) {
            int from = i == 0 ? 0 : newOnes[i - 1];
            items[i] = item(REST, from, (i == newOnes.length ? house.bars() : newOnes[i]) - from);
        }
        CHECK.sameItems(house, what, 0, items);
    }

    /** "if its metre is not that of the bar ahead of it (in beats or unit)" */
    private static void aNewRestIfTheMetreIsAnother() {
        ScoreHouse house = Scores.withBars(24, 2, 4);
        house.setMetre(0, 3, 4);
        sameRests(house, "other beats at bar 0", 1);
        house.setMetre(0, 2, 8);
        sameRests(house, "another unit at bar 0", 1);
        house.setMetre(0, 4, 8);
        sameRests(house, "both, of the same length", 1);
        house.setMetre(0, 2, 4);
        sameRests(house, "as the others");
        house.setMetre(23, 1, 2);
        sameRests(house, "the last bar, of the same length", 23);
        house.setMetre(22, 1, 2);
        sameRests(house, "the one ahead too", 22);
        house.setMetre(10, 3, 4);
        sameRests(house, "one between", 10, 11, 22);
    }

    /** "if a tempo is told at it" */
    private static void aNewRestIfATempoIsTold() {
        ScoreHouse house = Scores.withBars(24, 2, 4);
        house.setTempo(0, 240);
        sameRests(house, "at bar 0");
        house.setTempo(1, 240);
        sameRests(house, "the same at bar 1", 1);
        house.setTempo(23, 30);
        sameRests(house, "at the last bar", 1, 23);
        house.setTempo(1, NONE);
        sameRests(house, "taken away", 23);
    }

    /** "if a repeat begins with it" */
    private static void aNewRestIfARepeatBegins() {
        ScoreHouse house = Scores.withBars(24, 2, 4);
        house.addRepeat(0, 23, 0);
        sameRests(house, "of all bars");
        house.dropRepeat(0);
        house.addRepeat(23, 23, 0);
        sameRests(house, "with the last bar", 23);
        house.dropRepeat(23);
        house.addRepeat(1, 23, 0);
        sameRests(house, "with bar 1", 1);
        house.dropRepeat(1);
        sameRests(house, "dropped");
    }

    /** "if a repeat ends with the bar ahead of it" */
    private static void aNewRestIfARepeatEndsAhead() {
        ScoreHouse house = Scores.withBars(24, 2, 4);
        house.addRepeat(0, 0, 0);
        sameRests(house, "with bar 0", 1);
        house.dropRepeat(0);
        house.addRepeat(0, 22, 0);
        sameRests(house, "ahead of the last bar", 23);
        house.dropRepeat(0);
        house.addRepeat(5, 5, 0);
        sameRests(house, "a bar for itself", 5, 6);
        house.addRepeat(6, 7, 0);
        sameRests(house, "one repeat behind the other", 5, 6, 8);
    }

    /** "if the endings of a repeat begin with it": of one ending, and of one less than its bars. */
    private static void aNewRestIfTheEndingsBegin() {
        for (int endings = 1; endings <= 4; endings++) {
            ScoreHouse house = Scores.withBars(24, 2, 4);
            house.addRepeat(10, 14, endings);
            sameRests(house, endings + " endings", 10, 15 - endings, 15);
        }
        ScoreHouse all = Scores.withBars(24, 2, 4);
        all.addRepeat(0, 23, 1);
        sameRests(all, "the last bar", 23);
        all.dropRepeat(0);
        all.addRepeat(0, 23, 23);
        sameRests(all, "all but the first bar", 1);
    }

    private static void noNewRestWithoutEndings() {
        ScoreHouse house = Scores.withBars(24, 2, 4);
        house.addRepeat(10, 14, 0);
        sameRests(house, "no endings", 10, 15);
        Scores.fillBar(house, 0, 15);
        CHECK.sameItems(house, "and a bar behind", 0,
                item(REST, 0, 10), item(REST, 10, 5), item(BAR, 15, 1), item(REST, 16, 8));
    }

    /** "If a REST would have 4 bars or more": 3, 4, 5 and 23. */
    private static void aCueIfARestWouldHave4Bars() {
        for (int bars : new int[] {1, 2, 3, 4, 5, 23}) {
            ScoreHouse house = Scores.withBars(24, 2, 4);
            Scores.fillBar(house, 0, bars);
            Scores.fillBar(house, 1, bars - 1);
            int behind = 23 - bars;
            String what = "a rest of " + bars;
            if (bars < 4) {
                CHECK.sameItems(house, what, 0, item(REST, 0, bars), item(BAR, bars, 1), item(REST, bars + 1, behind));
            } else if (behind > 0) {
                CHECK.sameItems(house, what, 0, item(REST, 0, bars - 1), cue(bars - 1, 1), item(BAR, bars, 1),
                        item(REST, bars + 1, behind));
            } else {
                CHECK.sameItems(house, what, 0, item(REST, 0, bars - 1), cue(bars - 1, 1), item(BAR, bars, 1));
            }
        }
    }

    /** The bars that are counted are those of the one REST, not all empty bars. */
    private static void aRestOfFourIsCountedAsItIsJoined() {
        ScoreHouse house = Scores.withBars(8, 2, 4);
        Scores.fillBar(house, 0, 7);
        Scores.fillBar(house, 1, 6);
        house.setTempo(4, 100);
        CHECK.sameItems(house, "4 and 3", 0, item(REST, 0, 4), item(REST, 4, 3), item(BAR, 7, 1));
        house.setTempo(4, NONE);
        house.setTempo(3, 100);
        CHECK.sameItems(house, "3 and 4", 0, item(REST, 0, 3), item(REST, 3, 3), cue(6, 1), item(BAR, 7, 1));
        house.setTempo(3, NONE);
        house.setTempo(6, 100);
        CHECK.sameItems(house, "6 and 1", 0, item(REST, 0, 6), item(REST, 6, 1), item(BAR, 7, 1));
        house.setTempo(6, NONE);
        Scores.fillBar(house, 0, 2);
        CHECK.sameItems(house, "2 and 4", 0,
                item(REST, 0, 2), item(BAR, 2, 1), item(REST, 3, 3), cue(6, 1), item(BAR, 7, 1));
        Scores.fillBar(house, 0, 3);
        CHECK.sameItems(house, "3 behind bars", 0,
                item(REST, 0, 2), item(BAR, 2, 1), item(BAR, 3, 1), item(REST, 4, 3), item(BAR, 7, 1));
    }

    /** "and the bar behind it is not empty" */
    private static void aCueOnlyIfTheBarBehindIsNotEmpty() {
        ScoreHouse house = Scores.withBars(9, 2, 4);
        for (int bar = 0; bar < 9; bar++) {
            Scores.fillBar(house, 1, bar);
        }
        CHECK.sameItems(house, "no bar behind", 0, item(REST, 0, 9));
        house.setTempo(4, 100);
        CHECK.sameItems(house, "an empty bar behind", 0, item(REST, 0, 4), item(REST, 4, 5));
        Scores.fillBar(house, 0, 8);
        CHECK.sameItems(house, "a bar behind the second one", 0,
                item(REST, 0, 4), item(REST, 4, 3), cue(7, 1), item(BAR, 8, 1));
        Scores.fillBar(house, 0, 4);
        CHECK.sameItems(house, "and behind the first one", 0,
                item(REST, 0, 3), cue(3, 1), item(BAR, 4, 1), item(REST, 5, 3), item(BAR, 8, 1));
        house.setPitch(0, 4, 0, 0);
        CHECK.same("a rest is no empty bar", house.itemKind(0, 1), CUE);
    }

    /** "if some other voice is not empty in that bar" */
    private static void aCueOnlyIfAnotherVoiceIsNotEmptyInItsBar() {
        ScoreHouse house = Scores.withBars(7, 2, 4);
        Scores.fillBar(house, 3, 5);
        CHECK.sameItems(house, "none", 3, item(REST, 0, 5), item(BAR, 5, 1), item(REST, 6, 1));
        Scores.fillBar(house, 0, 3);
        Scores.fillBar(house, 1, 5);
        Scores.fillBar(house, 2, 6);
        CHECK.sameItems(house, "ahead and behind", 3, item(REST, 0, 5), item(BAR, 5, 1), item(REST, 6, 1));
        Scores.fillBar(house, 2, 4);
        CHECK.sameItems(house, "in its last bar", 3, item(REST, 0, 4), cue(4, 2), item(BAR, 5, 1), item(REST, 6, 1));
        house.remove(2, 4, 0);
        CHECK.sameItems(house, "taken away", 3, item(REST, 0, 5), item(BAR, 5, 1), item(REST, 6, 1));
    }

    /** "of several the lowest is the cue": never the voice itself. */
    private static void theLowestVoiceIsTheCue() {
        for (int voice = 0; voice < 4; voice++) {
            ScoreHouse house = Scores.withBars(5, 2, 4);
            Scores.fillBar(house, voice, 4);
            for (int other = 3; other >= 0; other--) {
                if (other != voice) {
                    Scores.fillBar(house, other, 3);
                    CHECK.sameItems(house, "voice " + voice + ", cue " + other, voice,
                            item(REST, 0, 3), cue(3, other), item(BAR, 4, 1));
                }
            }
        }
    }

    private static void aVoiceOfRestsThatIsNotRightIsACue() {
        ScoreHouse house = Scores.withBars(5, 2, 4);
        Scores.fillBar(house, 0, 4);
        house.insert(3, 3, 0, 0, 5, TRIPLET);
        CHECK.sameItems(house, "a rest of 2 ticks", 0, item(REST, 0, 3), cue(3, 3), item(BAR, 4, 1));
        CHECK.same("its width", house.itemWidth(0, 1), 10 + 3);
    }

    /** "NONE if it is no CUE" */
    private static void theCueIsNoneOfOtherItems() {
        ScoreHouse house = Scores.withBars(5, 2, 4);
        Scores.fillBar(house, 1, 4);
        Scores.fillBar(house, 0, 3);
        CHECK.same("of a REST", house.cue(1, 0), NONE);
        CHECK.same("of a CUE of the voice 0", house.cue(1, 1), 0);
        CHECK.same("of a BAR", house.cue(1, 2), NONE);
    }

    /** "3 wide, if it is the bar 0" */
    private static void theSignsOfTheBar0() {
        ScoreHouse house = Scores.withBars(2, 2, 4);
        Scores.fillBar(house, 0, 0);
        Scores.fillBar(house, 0, 1);
        CHECK.same("bar 0", house.itemWidth(0, 0), 3 + 22);
        CHECK.same("bar 1", house.itemWidth(0, 1), 22);
        CHECK.same("a rest from bar 0 on", house.itemWidth(1, 0), 3 + 16 + 2);
    }

    /** "or its metre is not that of the bar ahead of it" */
    private static void theSignsOfAnotherMetre() {
        ScoreHouse house = Scores.withBars(3, 2, 4);
        for (int bar = 0; bar < 3; bar++) {
            Scores.fillBar(house, 0, bar);
        }
        house.setMetre(1, 4, 8);
        CHECK.same("as long, but another one", house.itemWidth(0, 1), 3 + 22);
        CHECK.same("and the bar behind has another one than that", house.itemWidth(0, 2), 3 + 22);
        house.setMetre(0, 4, 8);
        CHECK.same("the bar 0 has them once", house.itemWidth(0, 0), 3 + 22);
        CHECK.same("the same", house.itemWidth(0, 1), 22);
        house.setMetre(2, 1, 2);
        CHECK.same("the last bar", house.itemWidth(0, 2), 3 + 22);
    }

    /** "and 4, if a tempo is told at it" */
    private static void theSignsOfATempo() {
        ScoreHouse house = Scores.withBars(2, 2, 4);
        Scores.fillBar(house, 0, 0);
        Scores.fillBar(house, 0, 1);
        house.setTempo(0, 120);
        CHECK.same("at bar 0", house.itemWidth(0, 0), 7 + 22);
        CHECK.same("it holds there, but is not told", house.itemWidth(0, 1), 22);
        house.setTempo(1, 120);
        CHECK.same("told, though it held", house.itemWidth(0, 1), 4 + 22);
        house.setTempo(1, NONE);
        CHECK.same("no more", house.itemWidth(0, 1), 22);
    }

    /** "and 2, if a repeat begins with it; and 2, if a repeat ends with it; all that applies together" */
    private static void theSignsOfRepeats() {
        ScoreHouse house = Scores.withBars(4, 2, 4);
        for (int bar = 0; bar < 4; bar++) {
            Scores.fillBar(house, 0, bar);
        }
        house.addRepeat(1, 3, 1);
        int[] due = {3 + 22, 2 + 22, 22, 2 + 22};
        for (int bar = 0; bar < 4; bar++) {
            CHECK.same("from 1 to 3, bar " + bar, house.itemWidth(0, bar), due[bar]);
        }
        house.dropRepeat(1);
        house.addRepeat(3, 3, 0);
        CHECK.same("of one bar", house.itemWidth(0, 3), 4 + 22);
        CHECK.same("the one ahead", house.itemWidth(0, 2), 22);
        house.addRepeat(0, 0, 0);
        house.setTempo(0, 60);
        CHECK.same("all signs together", house.itemWidth(0, 0), 3 + 4 + 2 + 2 + 22);
    }

    /** "The width of an item are the signs of all its bars": also of the last one of a rest. */
    private static void theSignsOfAllBarsOfARest() {
        ScoreHouse house = Scores.withBars(6, 2, 4);
        house.addRepeat(0, 4, 0);
        CHECK.same("one begins and ends in it", house.itemWidth(0, 0), 3 + 2 + 2 + 16 + 5);
        CHECK.same("the bar behind", house.itemWidth(0, 1), 16 + 1);
        house.setTempo(0, 60);
        CHECK.same("and a tempo", house.itemWidth(0, 0), 3 + 4 + 2 + 2 + 16 + 5);
        house.setTempo(5, 60);
        house.addRepeat(5, 5, 0);
        CHECK.same("all but a metre, in one bar", house.itemWidth(0, 1), 4 + 2 + 2 + 16 + 1);
        Scores.fillBar(house, 0, 5);
        house.insert(1, 4, 0, 60, 5, PLAIN);
        CHECK.same("without its last bar", house.itemWidth(0, 0), 3 + 4 + 2 + 16 + 4);
        CHECK.same("the cue has the sign of that", house.itemWidth(0, 1), 2 + 10 + 3);
    }

    private static int widthOfBar(int beats, int unit, int... kindsAndForms) {
        ScoreHouse house = new ScoreHouse();
        house.addBar(beats, unit);
        for (int i = 0; i < kindsAndForms.length; i += 2) {
            house.insert(0, 0, i / 2, 60, kindsAndForms[i], kindsAndForms[i + 1]);
        }
        CHECK.yes("the bar is right", house.isRight(0, 0));
        return house.itemWidth(0, 0) - 3 - 10;
    }

    /** "for each of its events 4, its ticks / 6": each for itself rounded down. */
    private static void theWidthOfEventsIsByTheirTicks() {
        CHECK.same("96", widthOfBar(4, 4, 0, PLAIN), 4 + 16);
        CHECK.same("48", widthOfBar(1, 2, 1, PLAIN), 4 + 8);
        CHECK.same("24", widthOfBar(1, 4, 2, PLAIN), 4 + 4);
        CHECK.same("12", widthOfBar(1, 8, 3, PLAIN), 4 + 2);
        CHECK.same("6 and 6", widthOfBar(1, 8, 4, PLAIN, 4, PLAIN), 2 * (4 + 1));
        CHECK.same("3, four times", widthOfBar(1, 8, 5, PLAIN, 5, PLAIN, 5, PLAIN, 5, PLAIN), 4 * 4);
        CHECK.same("64, three times", widthOfBar(4, 2, 0, TRIPLET, 0, TRIPLET, 0, TRIPLET), 3 * (4 + 10));
        CHECK.same("32, three times", widthOfBar(4, 4, 1, TRIPLET, 1, TRIPLET, 1, TRIPLET), 3 * (4 + 5));
        CHECK.same("16, three times", widthOfBar(2, 4, 2, TRIPLET, 2, TRIPLET, 2, TRIPLET), 3 * (4 + 2));
        CHECK.same("8, three times", widthOfBar(1, 4, 3, TRIPLET, 3, TRIPLET, 3, TRIPLET), 3 * (4 + 1));
        CHECK.same("4, three times", widthOfBar(1, 8, 4, TRIPLET, 4, TRIPLET, 4, TRIPLET), 3 * 4);
        CHECK.same("2, three times, and 6", widthOfBar(1, 8, 5, TRIPLET, 5, TRIPLET, 5, TRIPLET, 4, PLAIN), 3 * 4 + 5);
    }

    /** "2 if it is DOTTED" */
    private static void theWidthOfDottedOnes() {
        CHECK.same("144", widthOfBar(3, 2, 0, DOTTED), 4 + 24 + 2);
        CHECK.same("72", widthOfBar(3, 4, 1, DOTTED), 4 + 12 + 2);
        CHECK.same("36", widthOfBar(3, 8, 2, DOTTED), 4 + 6 + 2);
        CHECK.same("18 and 6", widthOfBar(1, 4, 3, DOTTED, 4, PLAIN), 4 + 3 + 2 + 4 + 1);
        CHECK.same("9 and 3", widthOfBar(1, 8, 4, DOTTED, 5, PLAIN), 4 + 1 + 2 + 4);
    }

    /** "3 if it has a mark": 0 is one. */
    private static void theWidthOfMarks() {
        ScoreHouse house = Scores.withBars(2, 2, 4);
        Scores.fillBar(house, 0, 1);
        CHECK.same("none", house.itemWidth(0, 1), 22);
        for (int mark = 0; mark <= 5; mark++) {
            house.setMark(0, 1, 0, mark);
            CHECK.same("mark " + mark, house.itemWidth(0, 1), 22 + 3);
        }
        house.setMark(0, 1, 0, NONE);
        CHECK.same("none any more", house.itemWidth(0, 1), 22);
        house.setPitch(0, 1, 0, 0);
        house.setMark(0, 1, 0, 0);
        CHECK.same("of a rest", house.itemWidth(0, 1), 22 + 3);
    }

    /** "and 2 more if it and the one ahead of it in the bar both have one" */
    private static void theWidthOfMarksSideBySide() {
        ScoreHouse house = Scores.withBars(3, 2, 4);
        for (int bar = 0; bar < 3; bar++) {
            for (int index = 0; index < 4; index++) {
                house.insert(0, bar, index, 60, 3, PLAIN);
            }
        }
        int plain = 10 + 4 * 6;
        house.setMark(0, 0, 3, 1);
        house.setMark(0, 1, 0, 1);
        CHECK.same("the one ahead is in the bar ahead", house.itemWidth(0, 1), plain + 3);
        house.setMark(0, 1, 2, 1);
        CHECK.same("one between", house.itemWidth(0, 1), plain + 6);
        house.setMark(0, 1, 3, 1);
        CHECK.same("the last two", house.itemWidth(0, 1), plain + 9 + 2);
        house.setMark(0, 1, 1, 0);
        CHECK.same("all four", house.itemWidth(0, 1), plain + 12 + 6);
        house.setMark(0, 1, 0, NONE);
        CHECK.same("the first one not", house.itemWidth(0, 1), plain + 9 + 4);
        CHECK.same("the bar behind has none", house.itemWidth(0, 2), plain);
    }

    /** "for a REST 16 and the number of its bars" */
    private static void theWidthOfRests() {
        ScoreHouse house = Scores.withBars(24, 2, 4);
        CHECK.same("24 bars", house.itemWidth(0, 0), 3 + 16 + 24);
        Scores.fillBar(house, 0, 1);
        Scores.fillBar(house, 0, 3);
        CHECK.same("the bar 0", house.itemWidth(0, 0), 3 + 16 + 1);
        CHECK.same("one bar", house.itemWidth(0, 2), 16 + 1);
        CHECK.same("20 bars", house.itemWidth(0, 4), 16 + 20);
    }

    /** "for a CUE 10, and for each event of the cue in that bar 3 and its ticks / 8" */
    private static void theWidthOfCuesIsByTheirTicks() {
        int[][] eighths = {{12, 6, 3, 1, 0, 0}, {18, 9, 4, 2, 1}, {8, 4, 2, 1, 0, 0}};
        ScoreHouse house = new ScoreHouse();
        for (int bar = 0; bar < 5; bar++) {
            house.addBar(9, 2);
        }
        for (int event = 0; event < 3; event++) {
            house.insert(0, 4, event, 60, 0, DOTTED);
        }
        for (int form = PLAIN; form <= TRIPLET; form++) {
            for (int kind = 0; kind < eighths[form].length; kind++) {
                house.insert(1, 3, 0, 60, kind, form);
                CHECK.same("kind " + kind + ", form " + form, house.itemWidth(0, 1), 10 + 3 + eighths[form][kind]);
                house.remove(1, 3, 0);
            }
        }
        for (int event = 0; event < 16; event++) {
            house.insert(1, 3, event, 60, 4, PLAIN);
            CHECK.same("each for itself", house.itemWidth(0, 1), 10 + 3 * (event + 1));
            house.setMark(1, 3, event, 5);
            CHECK.same("marks do not matter", house.itemWidth(0, 1), 10 + 3 * (event + 1));
        }
    }

    /** 16 events with marks, 11 of them dotted, in the longest bar, with all signs. */
    private static void theWidestBar() {
        ScoreHouse house = new ScoreHouse();
        house.addBar(9, 2);
        for (int event = 0; event < 12; event++) {
            house.insert(0, 0, event, 60, 2, event < 11 ? DOTTED : PLAIN);
        }
        for (int event = 12; event < 16; event++) {
            house.insert(0, 0, event, 60, 5, PLAIN);
        }
        for (int event = 0; event < 16; event++) {
            house.setMark(0, 0, event, 0);
        }
        house.setTempo(0, 30);
        house.addRepeat(0, 0, 0);
        CHECK.same("it is full", house.left(0, 0), 0);
        int events = 11 * (4 + 6 + 2) + (4 + 4) + 4 * 4;
        CHECK.same("all together", house.itemWidth(0, 0), 11 + 10 + events + 16 * 3 + 15 * 2);
    }
}
