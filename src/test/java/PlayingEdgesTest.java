/** The boundary cases of promises 23 to 35, a method for each sentence of the document that names one. */
public final class PlayingEdgesTest {
    private static final ScoreCheck CHECK = new ScoreCheck("PlayingEdgesTest");
    private static final int PLAIN = ScoreHouse.PLAIN, DOTTED = ScoreHouse.DOTTED, TRIPLET = ScoreHouse.TRIPLET;
    private static final int NONE = ScoreHouse.NONE;

    public static void main(String[] args) {
        aRepeatGoesToTheSameOrALaterBar();
        endingsAre0ToLessThanTheBars();
        noTwoRepeatsHaveABarInCommon();
        asManyRepeatsAsBars();
        dropRepeatIsToldByTheFirstBar();
        placesWithoutRepeatsAreTheBars();
        placesOfRepeatsAtBothEnds();
        theRepeatIsPlayedOnceMoreWithoutItsEndings();
        asManyPlacesAsThereCanBe();
        aPlaceBeginsWhenAllAheadAreOver();
        thePlayingTimeIs0WithoutBars();
        timeByEventsOfEmptyAndOfFewTicks();
        timeByEventsIsRoundedForAllTicksTogether();
        thereAreNoSoundsOfRests();
        asManySoundsAsCanBeTold();
        aSoundOfOneNote();
        aSoundOfAsManyAsThereAre();
        theTieCountsForTheSamePitchAlone();
        theEventBehindTheLastOneIsInTheNextBar();
        thereIsNoneBehindIfTheNextBarIsEmpty();
        thereIsNoneBehindTheLastBar();
        notesOfASoundArePlayedRightBehind();
        soundsOverRepeatsOfOneBar();
        soundsOverEndings();
        aSoundEndsByThePlaceOfItsLastNote();
        startsAndEndsAreRoundedDownByTicks();
        soundsAreNumberedByTheirBeginnings();
        soundsThatBeginTogetherAreByRisingVoices();
        thePitchOfASoundIsNotTransposed();
        aSoundIsAsLoudAs2WithoutAMark();
        marksOfLoudnessAre0To5();
        theMarkIsThatOfTheFirstNoteOrAheadOfIt();
        marksAreInTheOrderOfBars();
        CHECK.end();
    }

    /** Bars, each full of one note of the pitch 60 in the voice 0, and all of them tied. */
    private static ScoreHouse withTiedBars(int count) {
        ScoreHouse house = Scores.withBars(count, 2, 4);
        for (int bar = 0; bar < count; bar++) {
            house.insert(0, bar, 0, 60, 1, PLAIN);
            house.setTie(0, bar, 0, true);
        }
        return house;
    }

    /** "A repeat goes from a bar to the same or a later one" */
    private static void aRepeatGoesToTheSameOrALaterBar() {
        ScoreHouse house = Scores.withBars(24, 2, 4);
        CHECK.badArgument("to the bar ahead", () -> house.addRepeat(5, 4, 0));
        CHECK.badArgument("to the first from the last", () -> house.addRepeat(23, 0, 0));
        CHECK.same("none is there", house.places(), 24);
        CHECK.same("to the same", house.addRepeat(5, 5, 0), 1);
        CHECK.same("to the next one", house.addRepeat(6, 7, 0), 2);
        house.dropRepeat(5);
        house.dropRepeat(6);
        CHECK.notThere("to bar 24", () -> house.addRepeat(0, 24, 0));
        CHECK.notThere("from bar -1", () -> house.addRepeat(-1, 23, 0));
        CHECK.same("from the first to the last", house.addRepeat(0, 23, 0), 1);
        CHECK.same("its last bar", house.dropRepeat(0), 23);
    }

    /** "a number of endings, from 0 to less than the number of its bars" */
    private static void endingsAre0ToLessThanTheBars() {
        for (int b : new int[] {1, 2, 3, 24}) {
            int bars = b;
            ScoreHouse house = Scores.withBars(24, 2, 4);
            CHECK.badArgument("-1 of " + bars, () -> house.addRepeat(0, bars - 1, -1));
            CHECK.badArgument(bars + " of " + bars, () -> house.addRepeat(0, bars - 1, bars));
            CHECK.same("no repeat", house.places(), 24);
            CHECK.same("0 of " + bars, house.addRepeat(0, bars - 1, 0), 1);
            CHECK.same("all bars once more", house.places(), 24 + bars);
            CHECK.same("dropped", house.dropRepeat(0), bars - 1);
            CHECK.same("one less than " + bars, house.addRepeat(0, bars - 1, bars - 1), 1);
            CHECK.same("one bar once more", house.places(), 25);
            CHECK.same("it is the first", house.barAt(bars), 0);
        }
    }

    /** "no two repeats have a bar in common" */
    private static void noTwoRepeatsHaveABarInCommon() {
        ScoreHouse house = Scores.withBars(10, 2, 4);
        house.addRepeat(3, 6, 0);
        int[][] common = {{3, 3}, {6, 6}, {4, 5}, {3, 6}, {2, 3}, {6, 7},
                {0, 3}, {6, 9}, {2, 7}, {0, 9}, {0, 6}, {3, 9}};
        for (int[] bars : common) {
            CHECK.badState(bars[0] + " to " + bars[1], () -> house.addRepeat(bars[0], bars[1], 0));
        }
        CHECK.same("no one more", house.places(), 14);
        CHECK.same("up to the bar ahead", house.addRepeat(0, 2, 0), 2);
        CHECK.same("from the bar behind", house.addRepeat(7, 9, 0), 3);
        CHECK.same("all twice", house.places(), 20);
        house.dropRepeat(3);
        CHECK.same("free again", house.addRepeat(3, 3, 0), 3);
        CHECK.badState("but for that bar", () -> house.addRepeat(3, 6, 0));
        CHECK.same("free again", house.addRepeat(4, 6, 0), 4);
    }

    private static void asManyRepeatsAsBars() {
        ScoreHouse house = Scores.withBars(24, 2, 4);
        for (int bar = 23; bar >= 0; bar--) {
            CHECK.same("how many there are then", house.addRepeat(bar, bar, 0), 24 - bar);
        }
        CHECK.same("each twice", house.places(), 48);
        CHECK.badState("one more", () -> house.addRepeat(0, 0, 0));
        for (int place = 0; place < 48; place++) {
            CHECK.same("bar of place " + place, house.barAt(place), place / 2);
        }
        for (int bar = 0; bar < 24; bar++) {
            CHECK.same("dropped", house.dropRepeat(bar), bar);
        }
        CHECK.same("none is there", house.places(), 24);
        CHECK.same("the first one again", house.addRepeat(0, 23, 0), 1);
    }

    /** "if none begins with it" */
    private static void dropRepeatIsToldByTheFirstBar() {
        ScoreHouse house = Scores.withBars(6, 2, 4);
        CHECK.badState("none at all", () -> house.dropRepeat(0));
        house.addRepeat(1, 4, 2);
        for (int b : new int[] {0, 2, 3, 4, 5}) {
            int bar = b;
            CHECK.badState("none begins with " + bar, () -> house.dropRepeat(bar));
        }
        CHECK.notThere("bar 6", () -> house.dropRepeat(6));
        CHECK.notThere("bar -1", () -> house.dropRepeat(-1));
        CHECK.samePlaces(house, "still there", 0, 1, 2, 3, 4, 1, 2, 5);
        CHECK.same("its last bar", house.dropRepeat(1), 4);
        CHECK.badState("no more there", () -> house.dropRepeat(1));
        CHECK.samePlaces(house, "dropped", 0, 1, 2, 3, 4, 5);
    }

    private static void placesWithoutRepeatsAreTheBars() {
        CHECK.samePlaces(new ScoreHouse(), "no bars");
        CHECK.samePlaces(Scores.withBars(1, 2, 4), "one bar", 0);
        ScoreHouse most = Scores.withBars(24, 2, 4);
        CHECK.same("24", most.places(), 24);
        CHECK.same("the first", most.barAt(0), 0);
        CHECK.same("the last", most.barAt(23), 23);
        CHECK.notThere("place 24", () -> most.barAt(24));
    }

    private static void placesOfRepeatsAtBothEnds() {
        ScoreHouse house = Scores.withBars(4, 2, 4);
        house.addRepeat(2, 3, 0);
        CHECK.samePlaces(house, "at the end", 0, 1, 2, 3, 2, 3);
        house.addRepeat(0, 1, 0);
        CHECK.samePlaces(house, "and at the beginning", 0, 1, 0, 1, 2, 3, 2, 3);
        house.dropRepeat(2);
        CHECK.samePlaces(house, "at the beginning", 0, 1, 0, 1, 2, 3);
        house.addBar(2, 4);
        house.addRepeat(4, 4, 0);
        CHECK.samePlaces(house, "of a bar that was added", 0, 1, 0, 1, 2, 3, 4, 4);
    }

    /** "and then once more without as many of its last bars as it has endings" */
    private static void theRepeatIsPlayedOnceMoreWithoutItsEndings() {
        int[][] due = {{0, 1, 2, 3, 1, 2, 3, 4}, {0, 1, 2, 3, 1, 2, 4}, {0, 1, 2, 3, 1, 4}};
        for (int endings = 0; endings < due.length; endings++) {
            ScoreHouse house = Scores.withBars(5, 2, 4);
            house.addRepeat(1, 3, endings);
            CHECK.samePlaces(house, endings + " endings", due[endings]);
        }
    }

    private static void asManyPlacesAsThereCanBe() {
        ScoreHouse house = new ScoreHouse();
        for (int bar = 0; bar < 24; bar++) {
            house.addBar(9, 2);
        }
        house.setTempo(0, 30);
        house.addRepeat(0, 23, 0);
        CHECK.same("places", house.places(), 48);
        CHECK.same("the last of the first time", house.barAt(23), 23);
        CHECK.same("the first once more", house.barAt(24), 0);
        CHECK.same("the last once more", house.barAt(47), 23);
        CHECK.same("its start", house.startOf(47), 47 * 36000);
        CHECK.notThere("bar of place 48", () -> house.barAt(48));
        CHECK.notThere("start of place 48", () -> house.startOf(48));
        CHECK.same("the longest time", house.playingTime(), 48 * 36000);
        CHECK.same("by the events of an empty voice", house.timeByEvents(3), 48 * 36000);
    }

    /** "a place begins when all places ahead of it are over" */
    private static void aPlaceBeginsWhenAllAheadAreOver() {
        ScoreHouse house = Scores.withBars(3, 2, 4);
        CHECK.same("none ahead", house.startOf(0), 0);
        CHECK.same("one ahead", house.startOf(1), 1000);
        house.setTempo(0, 77);
        house.setMetre(1, 1, 8);
        house.addRepeat(0, 1, 0);
        // 48 ticks at 77 take 1558, 12 take 389: each is rounded down for itself.
        int[] starts = {0, 1558, 1947, 3505, 3894};
        for (int place = 0; place < starts.length; place++) {
            CHECK.same("start of " + place, house.startOf(place), starts[place]);
        }
        CHECK.same("when the last place is over", house.playingTime(), 3894 + 1558);
    }

    /** "0 without bars" */
    private static void thePlayingTimeIs0WithoutBars() {
        ScoreHouse house = new ScoreHouse();
        CHECK.same("no bars", house.playingTime(), 0);
        house.addBar(1, 8);
        house.setTempo(0, 240);
        CHECK.same("the shortest bar", house.playingTime(), 125);
    }

    /** "for each place the time of the bar, if it is empty, otherwise what the ticks of all its events .. take" */
    private static void timeByEventsOfEmptyAndOfFewTicks() {
        for (int voice = 0; voice < 4; voice++) {
            ScoreHouse house = Scores.withBars(2, 2, 4);
            CHECK.same("both empty", house.timeByEvents(voice), 2000);
            house.insert(voice, 1, 0, 0, 5, TRIPLET);
            CHECK.same("2 ticks", house.timeByEvents(voice), 1000 + 41);
            CHECK.same("playing does not change", house.playingTime(), 2000);
            house.remove(voice, 1, 0);
            CHECK.same("empty again", house.timeByEvents(voice), 2000);
            house.insert(voice, 1, 0, 60, 1, PLAIN);
            CHECK.same("full", house.timeByEvents(voice), 2000);
            house.addRepeat(1, 1, 0);
            CHECK.same("once more", house.timeByEvents(voice), 3000);
            CHECK.same("another voice", house.timeByEvents(3 - voice), 3000);
        }
        CHECK.same("no bars", new ScoreHouse().timeByEvents(3), 0);
    }

    private static void timeByEventsIsRoundedForAllTicksTogether() {
        ScoreHouse house = Scores.withBars(2, 2, 4);
        house.setTempo(0, 130);
        for (int index = 0; index < 3; index++) {
            house.insert(0, 0, index, 60, 5, PLAIN);
            house.insert(0, 1, index, 60, 5, PLAIN);
        }
        // 3 ticks take 57.7, 9 take 173.1, 18 take 346.2.
        CHECK.same("9 and 9", house.timeByEvents(0), 173 + 173);
        house.remove(0, 1, 0);
        // 6 ticks take 115.4.
        CHECK.same("9 and 6", house.timeByEvents(0), 173 + 115);
    }

    private static void thereAreNoSoundsOfRests() {
        ScoreHouse house = Scores.withBars(2, 2, 4);
        CHECK.sameSounds(new ScoreHouse(), "no bars");
        CHECK.sameSounds(house, "no events");
        house.insert(0, 0, 0, 0, 1, PLAIN);
        house.insert(3, 1, 0, 0, 5, PLAIN);
        CHECK.sameSounds(house, "rests alone");
        house.setPitch(0, 0, 0, 1);
        CHECK.sameSounds(house, "one that becomes a note", 0, 1000);
        house.setPitch(0, 0, 0, 0);
        CHECK.sameSounds(house, "and a rest again");
    }

    /** With 512 calls some 480 notes can be told, and played twice. */
    private static void asManySoundsAsCanBeTold() {
        ScoreHouse house = new ScoreHouse();
        for (int bar = 0; bar < 8; bar++) {
            house.addBar(4, 4);
        }
        house.addRepeat(0, 7, 0);
        int told = 0;
        for (int index = 0; index < 16; index++) {
            for (int place = 0; place < 32 && told < 480; place++) {
                house.insert(place % 4, place / 4, index, 1 + index, 4, PLAIN);
                told++;
            }
        }
        CHECK.same("sounds", house.sounds(), 960);
        CHECK.same("voice of the first", house.soundVoice(0), 0);
        CHECK.same("start of the last", house.soundStart(959), 32000 - 2 * 125);
        CHECK.same("voice of the last", house.soundVoice(959), 3);
        CHECK.same("pitch of the last", house.soundPitch(959), 15);
        CHECK.same("time of the last", house.soundTime(959), 125);
        CHECK.same("start of the first once more", house.soundStart(480), 16000);
        CHECK.notThere("sound 960", () -> house.soundVoice(960));
        CHECK.notThere("sound -1", () -> house.soundVoice(-1));
    }

    private static void aSoundOfOneNote() {
        ScoreHouse house = Scores.withBars(1, 2, 4);
        house.setTempo(0, 240);
        house.insert(2, 0, 0, 1, 5, TRIPLET);
        CHECK.sameSounds(house, "the shortest", 0, 20);
        CHECK.same("its voice", house.soundVoice(0), 2);
        CHECK.same("its pitch", house.soundPitch(0), 1);
        ScoreHouse longest = new ScoreHouse();
        longest.addBar(9, 2);
        longest.setTempo(0, 30);
        longest.insert(3, 0, 0, 127, 0, DOTTED);
        CHECK.sameSounds(longest, "the longest", 0, 12000);
        CHECK.same("its pitch", longest.soundPitch(0), 127);
    }

    /** "as many as there are": a bar of 16, and 24 bars. */
    private static void aSoundOfAsManyAsThereAre() {
        ScoreHouse house = new ScoreHouse();
        house.addBar(4, 4);
        for (int index = 0; index < 16; index++) {
            house.insert(0, 0, index, 60, 4, PLAIN);
            house.setTie(0, 0, index, true);
        }
        CHECK.sameSounds(house, "16 notes", 0, 2000);
        house.setTie(0, 0, 14, false);
        CHECK.sameSounds(house, "15 and 1", 0, 1875, 1875, 125);
        house.setTie(0, 0, 0, false);
        CHECK.sameSounds(house, "1, 14 and 1", 0, 125, 125, 1750, 1875, 125);
        CHECK.sameSounds(withTiedBars(24), "24 bars", 0, 24000);
        ScoreHouse two = withTiedBars(24);
        two.setTie(0, 11, 0, false);
        CHECK.sameSounds(two, "12 and 12 bars", 0, 12000, 12000, 12000);
    }

    /** "the tie counts, if the event behind it is a note of the same pitch" */
    private static void theTieCountsForTheSamePitchAlone() {
        ScoreHouse house = Scores.withBars(1, 2, 4);
        house.insert(0, 0, 0, 60, 2, PLAIN);
        house.insert(0, 0, 1, 60, 2, PLAIN);
        CHECK.sameSounds(house, "not tied", 0, 500, 500, 500);
        house.setTie(0, 0, 0, true);
        CHECK.sameSounds(house, "tied", 0, 1000);
        house.setPitch(0, 0, 1, 61);
        CHECK.sameSounds(house, "higher by one", 0, 500, 500, 500);
        house.setPitch(0, 0, 1, 59);
        CHECK.sameSounds(house, "lower by one", 0, 500, 500, 500);
        house.setPitch(0, 0, 1, 0);
        CHECK.sameSounds(house, "a rest behind", 0, 500);
        house.setPitch(0, 0, 1, 60);
        CHECK.sameSounds(house, "the same again: the tie is still told", 0, 1000);
        house.setTie(0, 0, 0, false);
        house.setTie(0, 0, 1, true);
        CHECK.sameSounds(house, "the one behind is tied", 0, 500, 500, 500);
        house.remove(0, 0, 0);
        CHECK.sameSounds(house, "the last one alone", 0, 500);
    }

    /** "behind the last one, the first one of the next bar of the voice" */
    private static void theEventBehindTheLastOneIsInTheNextBar() {
        ScoreHouse house = Scores.withBars(3, 2, 4);
        house.insert(0, 0, 0, 60, 2, PLAIN);
        house.insert(0, 0, 1, 60, 2, PLAIN);
        house.insert(0, 1, 0, 60, 2, PLAIN);
        house.insert(0, 1, 1, 60, 2, PLAIN);
        house.setTie(0, 0, 1, true);
        CHECK.sameSounds(house, "over the bar line", 0, 500, 500, 1000, 1500, 500);
        house.setPitch(0, 1, 0, 61);
        CHECK.sameSounds(house, "not to the second one", 0, 500, 500, 500, 1000, 500, 1500, 500);
        house.setPitch(0, 1, 0, 0);
        CHECK.sameSounds(house, "not over a rest", 0, 500, 500, 500, 1500, 500);
        house.remove(0, 1, 0);
        CHECK.sameSounds(house, "the second one is the first", 0, 500, 500, 1000);
        house.setTie(0, 0, 1, false);
        house.setTie(0, 0, 0, true);
        CHECK.sameSounds(house, "the one ahead is not the last", 0, 1000, 1000, 500);
    }

    /** "there is none if that bar is empty": also if the one behind that is not. */
    private static void thereIsNoneBehindIfTheNextBarIsEmpty() {
        ScoreHouse house = withTiedBars(3);
        house.remove(0, 1, 0);
        CHECK.sameSounds(house, "an empty bar", 0, 1000, 2000, 1000);
        house.insert(1, 1, 0, 60, 1, PLAIN);
        CHECK.sameSounds(house, "not empty in another voice", 0, 1000, 1000, 1000, 2000, 1000);
        house.insert(0, 1, 0, 60, 1, PLAIN);
        CHECK.same("no more empty: tied to it, but that is not tied", house.sounds(), 3);
        CHECK.same("its time", house.soundTime(0), 2000);
    }

    /** "or not there" */
    private static void thereIsNoneBehindTheLastBar() {
        ScoreHouse house = withTiedBars(1);
        CHECK.sameSounds(house, "one bar", 0, 1000);
        house.addBar(2, 4);
        CHECK.sameSounds(house, "an empty one behind", 0, 1000);
        house.insert(0, 1, 0, 60, 5, TRIPLET);
        CHECK.sameSounds(house, "no more empty", 0, 1041);
        CHECK.sameSounds(withTiedBars(24), "the bar 23", 0, 24000);
    }

    /** "each .. being that behind the one ahead of it, whose tie counts, and played right behind it" */
    private static void notesOfASoundArePlayedRightBehind() {
        ScoreHouse house = withTiedBars(4);
        CHECK.sameSounds(house, "in order", 0, 4000);
        house.addRepeat(1, 2, 0);
        // 0 1 2 1 2 3: the bar 1 is played right behind 2, but it is not that behind.
        CHECK.sameSounds(house, "a repeat", 0, 3000, 3000, 3000);
        house.dropRepeat(1);
        house.addRepeat(0, 3, 0);
        CHECK.sameSounds(house, "a repeat of all", 0, 4000, 4000, 4000);
        house.dropRepeat(0);
        house.addRepeat(0, 0, 0);
        CHECK.sameSounds(house, "of the first bar", 0, 1000, 1000, 4000);
        house.dropRepeat(0);
        house.addRepeat(3, 3, 0);
        CHECK.sameSounds(house, "of the last bar", 0, 4000, 4000, 1000);
    }

    private static void soundsOverRepeatsOfOneBar() {
        ScoreHouse house = withTiedBars(3);
        house.addRepeat(1, 1, 0);
        // 0 1 1 2
        CHECK.sameSounds(house, "a bar once more", 0, 2000, 2000, 2000);
        ScoreHouse within = Scores.withBars(1, 2, 4);
        for (int index = 0; index < 2; index++) {
            within.insert(0, 0, index, 60, 2, PLAIN);
            within.setTie(0, 0, index, true);
        }
        within.addRepeat(0, 0, 0);
        CHECK.sameSounds(within, "tied in the bar, not to its beginning", 0, 1000, 1000, 1000);
    }

    private static void soundsOverEndings() {
        ScoreHouse house = withTiedBars(4);
        house.addRepeat(0, 2, 1);
        // 0 1 2 0 1 3: nothing is right behind 2, and 3 is not that behind 1.
        CHECK.sameSounds(house, "one ending", 0, 3000, 3000, 2000, 5000, 1000);
        house.dropRepeat(0);
        house.addRepeat(0, 2, 2);
        // 0 1 2 0 3
        CHECK.sameSounds(house, "two endings", 0, 3000, 3000, 1000, 4000, 1000);
        house.dropRepeat(0);
        house.addRepeat(0, 3, 3);
        // 0 1 2 3 0
        CHECK.sameSounds(house, "endings up to the end", 0, 4000, 4000, 1000);
    }

    /** "as many behind the beginning of the place of its last note as the ticks up to the end of that take there" */
    private static void aSoundEndsByThePlaceOfItsLastNote() {
        ScoreHouse house = withTiedBars(2);
        house.setTempo(1, 60);
        CHECK.sameSounds(house, "a slower bar", 0, 3000);
        house.setTempo(1, 240);
        CHECK.sameSounds(house, "a faster bar", 0, 1500);
        house.remove(0, 1, 0);
        house.insert(0, 1, 0, 60, 3, PLAIN);
        house.insert(0, 1, 1, 0, 3, PLAIN);
        CHECK.sameSounds(house, "it ends in the bar", 0, 1125);
    }

    /** Starts and ends are those of all ticks ahead of them in the bar, rounded down once. */
    private static void startsAndEndsAreRoundedDownByTicks() {
        ScoreHouse house = Scores.withBars(2, 2, 4);
        house.setTempo(0, 130);
        for (int index = 0; index < 4; index++) {
            house.insert(1, 1, index, 60 + index, 5, PLAIN);
        }
        // A bar takes 923; 3, 6, 9 and 12 ticks take 57, 115, 173 and 230.
        CHECK.sameSounds(house, "3 ticks each", 923, 57, 923 + 57, 58, 923 + 115, 58, 923 + 173, 57);
        house.setPitch(1, 1, 1, 0);
        house.setPitch(1, 1, 2, 63);
        house.setTie(1, 1, 2, true);
        CHECK.sameSounds(house, "two tied behind a rest", 923, 57, 923 + 115, 115);
    }

    /** "All sounds of all voices are numbered from 0 by their beginnings" */
    private static void soundsAreNumberedByTheirBeginnings() {
        ScoreHouse house = Scores.withBars(2, 2, 4);
        // The voice 3 begins ahead of 2, that of 1, that of 0, by 2 ticks each.
        for (int voice = 0; voice < 4; voice++) {
            for (int rest = 0; rest < 3 - voice; rest++) {
                house.insert(voice, 0, rest, 0, 5, TRIPLET);
            }
            house.insert(voice, 0, 3 - voice, 60 + voice, 5, PLAIN);
        }
        house.insert(3, 1, 0, 70, 1, PLAIN);
        int[] voices = {3, 2, 1, 0, 3};
        int[] starts = {0, 41, 83, 125, 1000};
        CHECK.same("sounds", house.sounds(), 5);
        for (int sound = 0; sound < 5; sound++) {
            CHECK.same("voice of " + sound, house.soundVoice(sound), voices[sound]);
            CHECK.same("start of " + sound, house.soundStart(sound), starts[sound]);
        }
        house.insert(3, 0, 1, 70, 2, DOTTED);
        house.insert(3, 0, 2, 70, 4, DOTTED);
        house.setTie(3, 0, 1, true);
        house.setTie(3, 0, 2, true);
        CHECK.same("three notes tied", house.sounds(), 5);
        CHECK.same("by its first one, ahead of that of voice 1", house.soundVoice(2), 3);
        CHECK.same("its start, behind 3 ticks", house.soundStart(2), 62);
        CHECK.same("its time", house.soundTime(2), 2000 - 62);
    }

    /** "those that begin together by rising voices" */
    private static void soundsThatBeginTogetherAreByRisingVoices() {
        ScoreHouse house = Scores.withBars(1, 2, 4);
        house.addRepeat(0, 0, 0);
        for (int voice = 3; voice >= 0; voice--) {
            house.insert(voice, 0, 0, 60 - voice, 2, PLAIN);
            house.insert(voice, 0, 1, 70 - voice, 2, PLAIN);
        }
        for (int sound = 0; sound < 16; sound++) {
            CHECK.same("voice of " + sound, house.soundVoice(sound), sound % 4);
            CHECK.same("start of " + sound, house.soundStart(sound), sound / 4 * 500);
            CHECK.same("pitch of " + sound, house.soundPitch(sound), (sound / 4 % 2 == 0 ? 60 : 70) - sound % 4);
        }
        CHECK.same("sounds", house.sounds(), 16);
        CHECK.notThere("sound 16", () -> house.soundVoice(16));
        house.setPitch(0, 0, 0, 0);
        CHECK.same("then voice 1 is the first", house.soundVoice(0), 1);
    }

    /** "not transposed" */
    private static void thePitchOfASoundIsNotTransposed() {
        ScoreHouse house = Scores.withBars(1, 2, 4);
        house.insert(0, 0, 0, 13, 1, PLAIN);
        house.insert(1, 0, 0, 115, 1, PLAIN);
        house.transpose(0, -12);
        house.transpose(1, 12);
        CHECK.same("written 1", house.soundPitch(0), 13);
        CHECK.same("written 127", house.soundPitch(1), 115);
    }

    /** "2 if there is none" */
    private static void aSoundIsAsLoudAs2WithoutAMark() {
        ScoreHouse house = withTiedBars(2);
        house.insert(1, 0, 0, 50, 1, PLAIN);
        CHECK.same("none at all", house.loudness(0), 2);
        house.setMark(1, 0, 0, 5);
        CHECK.same("a mark of another voice", house.loudness(0), 2);
        CHECK.same("its own mark", house.loudness(1), 5);
        house.setMark(0, 1, 0, 4);
        CHECK.same("a mark behind its first note", house.loudness(0), 2);
        house.setMark(0, 1, 0, NONE);
        house.setMark(1, 0, 0, NONE);
        CHECK.same("taken away", house.loudness(1), 2);
    }

    private static void marksOfLoudnessAre0To5() {
        ScoreHouse house = withTiedBars(1);
        for (int mark = 0; mark <= 5; mark++) {
            house.setMark(0, 0, 0, mark);
            CHECK.same("mark " + mark, house.loudness(0), mark);
        }
    }

    /** "the latest event with one, .. that is its first note or ahead of it" */
    private static void theMarkIsThatOfTheFirstNoteOrAheadOfIt() {
        ScoreHouse house = withTiedBars(24);
        house.setTie(0, 0, 0, false);
        house.setMark(0, 0, 0, 0);
        house.setTie(0, 22, 0, false);
        CHECK.same("sounds", house.sounds(), 3);
        CHECK.same("a mark right ahead", house.loudness(1), 0);
        CHECK.same("a mark far ahead", house.loudness(2), 0);
        house.setMark(0, 1, 0, 5);
        CHECK.same("that of the first note", house.loudness(1), 5);
        CHECK.same("that of the one ahead", house.loudness(0), 0);
        house.setMark(0, 22, 0, 4);
        CHECK.same("that of its last note does not matter", house.loudness(1), 5);
        CHECK.same("for the next one it does", house.loudness(2), 4);
        house.setPitch(0, 22, 0, 0);
        CHECK.same("also of a rest", house.loudness(2), 4);
        house.setMark(0, 22, 0, NONE);
        CHECK.same("the latest with one", house.loudness(2), 5);
        house.setMark(0, 23, 0, 3);
        CHECK.same("its own, in the last bar", house.loudness(2), 3);
    }

    /** "of the voice in the order of bars": what is played once more does not matter. */
    private static void marksAreInTheOrderOfBars() {
        ScoreHouse house = withTiedBars(3);
        for (int bar = 0; bar < 3; bar++) {
            house.setTie(0, bar, 0, false);
        }
        house.setMark(0, 1, 0, 5);
        house.addRepeat(0, 1, 0);
        int[] due = {2, 5, 2, 5, 5};
        for (int sound = 0; sound < due.length; sound++) {
            CHECK.same("0 1 0 1 2, loudness of " + sound, house.loudness(sound), due[sound]);
        }
        house.dropRepeat(0);
        house.addRepeat(0, 1, 1);
        CHECK.same("0 1 0 2, that of 0 again", house.loudness(2), 2);
        CHECK.same("0 1 0 2, that of 2", house.loudness(3), 5);
    }
}
