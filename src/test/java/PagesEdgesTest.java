/**
 * The boundary cases of promises 46 to 55, a method for each sentence of the document that names one. In most of these
 * scores each bar is a line of its own, so lines and bars have the same numbers, and takes a second.
 */
public final class PagesEdgesTest {
    private static final ScoreCheck CHECK = new ScoreCheck("PagesEdgesTest");
    private static final int PLAIN = ScoreHouse.PLAIN;

    public static void main(String[] args) {
        aPageHasRoomForSomeLines();
        aPageHasRoomFor4LinesAtFirst();
        asFewAndAsManyPagesAsThereCanBe();
        thePage0MayBeBlank();
        aBlankPageBetweenOthers();
        twoBlankPagesToSpareAShortTurn();
        asManyBlankPagesAsAreWanted();
        aTurnIfTheFirstPageIsOnTheRight();
        aTurnIfABlankPageIsBetween();
        noTurnsOnOnePage();
        theBarBehindWhichABreakIs();
        theLastBarOfARestThatEndsALine();
        pagesOfAllBars();
        aBreakIsTimedWhenTheBarIsPlayedForTheFirstTime();
        theRestIs0WithinASound();
        theRestIs0BetweenSounds();
        theRestIsFromTheEndOfTheLatestSound();
        theRestIsFrom0WithoutASoundAhead();
        theRestIsToTheNextSoundThenOrLater();
        theRestIsToTheEndOfPlayingWithoutASound();
        theRestIsOfTheVoiceAlone();
        theLatestSoundIsThatOfPlaying();
        theRestIsAsLongAsWanted();
        theRestOf20000IsAsLongAsWanted();
        theRestWantedIs1500AtFirst();
        aRestOf1499IsTooShortAtFirst();
        aRestOf0IsAsLongAs0();
        aPhraseGoesOverTheTurn();
        aPhraseInTheBarDoesNotGoOverTheTurn();
        aPhraseOfAnotherVoiceOrGoneDoesNotMatter();
        aTurnIsAllowedBehindItsBarAlone();
        aTurnThatIsAllowedCanBeTooShort();
        aTurnIsBadOnceForBothReasons();
        asManyBadTurnsAsThereCanBe();
        theLastPageMayHaveRoom();
        roomIsWeighedByItsSquare();
        aBlankPageIsNotWorseThan3000();
        aBlankPageIsNotBetterThan3000();
        aTurnInAPhraseIsWorseThanShortOnes();
        ofSeveralThoseWithTheFewestPages();
        ofSeveralThoseWithTheMostLinesFirst();
        ofSeveralABlankPageHas0Lines();
        fourPagesOnEachSheet();
        theFirstAndTheLastPagesOfSheets();
        asManySheetsAsThereCanBe();
        CHECK.end();
    }

    private static ScoreHouse withRestsBehind(int count, int room, int... rests) {
        ScoreHouse house = Scores.withLines(count, room, 750);
        for (int bar : rests) {
            Scores.makeRest(house, bar);
        }
        CHECK.same("a line for each bar", house.lines(0), count);
        return house;
    }

    // ---- pages and blank pages

    /** "A page has room for some lines": 1 to 6; just as many, and one more. */
    private static void aPageHasRoomForSomeLines() {
        for (int room = 1; room <= 6; room++) {
            CHECK.samePages(Scores.withLines(room, room, 0), room + " lines", room);
            CHECK.samePages(Scores.withLines(room + 1, room, 0), "a line more than " + room, room, 1);
            CHECK.samePages(Scores.withLines(2 * room, room, 0), "twice " + room, room, room);
            CHECK.samePages(Scores.withLines(2 * room + 1, room, 0), "a line more than twice " + room, room, room, 1);
        }
    }

    /** "4 at first": bars that are wider than half the paper at first, and without a sound. */
    private static void aPageHasRoomFor4LinesAtFirst() {
        for (int lines = 1; lines <= 5; lines++) {
            ScoreHouse house = new ScoreHouse();
            for (int bar = 0; bar < lines; bar++) {
                house.addBar(9, 2);
                for (int event = 0; event < 3; event++) {
                    house.insert(0, bar, event, 0, 0, ScoreHouse.DOTTED);
                }
            }
            CHECK.same("a line for each bar", house.lines(0), lines);
            if (lines <= 4) {
                CHECK.samePages(house, lines + " lines", lines);
            } else {
                CHECK.samePages(house, "5 lines", 4, 1);
            }
        }
    }

    private static void asFewAndAsManyPagesAsThereCanBe() {
        CHECK.samePages(Scores.withLines(1, 1, 0), "one", 1);
        CHECK.samePages(Scores.withLines(1, 6, 20000), "one with room", 1);
        ScoreHouse most = Scores.withLines(24, 1, 0);
        CHECK.same("24", most.pages(0), 24);
        CHECK.same("the last one", most.pageLines(0, 23), 1);
        CHECK.notThere("page 24", () -> most.pageLines(0, 24));
        most.setPaper(40, 1, 20000);
        CHECK.same("and a blank one", most.pages(0), 25);
        CHECK.same("the first one", most.pageLines(0, 0), 0);
        CHECK.same("the last one", most.pageLines(0, 24), 1);
        CHECK.notThere("page 25", () -> most.pageLines(0, 25));
    }

    /** "the page 0 may be" */
    private static void thePage0MayBeBlank() {
        ScoreHouse house = Scores.withLines(2, 1, 1);
        CHECK.samePages(house, "no turn between the pages 1 and 2", 0, 1, 1);
        CHECK.sameTurns(house, "no turn between the pages 1 and 2");
        CHECK.same("so none is bad", house.badTurns(0), 0);
        CHECK.same("the page of bar 0", house.pageOf(0, 0), 1);
        CHECK.same("the page of bar 1", house.pageOf(0, 1), 2);
        CHECK.samePages(Scores.withLines(1, 1, 1), "not ahead of one page alone", 1);
    }

    private static void aBlankPageBetweenOthers() {
        ScoreHouse house = withRestsBehind(6, 1, 0, 2, 3);
        // Without a blank page it is turned behind 4.
        CHECK.samePages(house, "behind line 3", 1, 1, 1, 1, 0, 1, 1);
        CHECK.sameTurns(house, "behind line 3", 0, 2, 3);
        int[] pages = {0, 1, 2, 3, 5, 6};
        for (int bar = 0; bar < 6; bar++) {
            CHECK.same("page of bar " + bar, house.pageOf(0, bar), pages[bar]);
        }
    }

    private static void twoBlankPagesToSpareAShortTurn() {
        // 6000 and 400 of room are less than 20000 and 200 of room.
        ScoreHouse house = withRestsBehind(13, 3, 5, 6);
        CHECK.samePages(house, "two blank pages", 0, 3, 3, 1, 0, 3, 3);
        CHECK.sameTurns(house, "two blank pages", 5, 6);
        CHECK.same("none is bad", house.badTurns(0), 0);
    }

    /** A blank page ahead of each three lines, as a turn behind the first one of these would be too short. */
    private static void asManyBlankPagesAsAreWanted() {
        ScoreHouse house = withRestsBehind(24, 1, 1, 2, 4, 5, 7, 8, 10, 11, 13, 14, 16, 17, 19, 20, 22, 23);
        CHECK.same("pages", house.pages(0), 32);
        for (int page = 0; page < 32; page++) {
            CHECK.same("lines of page " + page, house.pageLines(0, page), page % 4 == 0 ? 0 : 1);
        }
        for (int bar = 0; bar < 24; bar++) {
            CHECK.same("page of bar " + bar, house.pageOf(0, bar), bar / 3 * 4 + bar % 3 + 1);
        }
        CHECK.sameTurns(house, "all at rests", 1, 2, 4, 5, 7, 8, 10, 11, 13, 14, 16, 17, 19, 20, 22);
        CHECK.same("none is bad", house.badTurns(0), 0);
        CHECK.same("sheets", house.sheets(0), 8);
        CHECK.sameSheet(house, 7, 17, 14, 15, 16);
    }

    // ---- breaks and turns

    /** "if the first one of them is on the right": those with even numbers. */
    private static void aTurnIfTheFirstPageIsOnTheRight() {
        CHECK.sameTurns(Scores.withLines(2, 1, 0), "pages 0 and 1", 0);
        CHECK.sameTurns(Scores.withLines(3, 1, 0), "pages 0 to 2", 0);
        CHECK.sameTurns(Scores.withLines(4, 1, 0), "pages 0 to 3", 0, 2);
        CHECK.sameTurns(Scores.withLines(5, 1, 0), "pages 0 to 4", 0, 2);
        CHECK.sameTurns(Scores.withLines(24, 1, 0), "pages 0 to 23", 0, 2, 4, 6, 8, 10, 12, 14, 16, 18, 20, 22);
    }

    /** "or if a blank page is between them": of pages on the left; those on the right have one anyway. */
    private static void aTurnIfABlankPageIsBetween() {
        ScoreHouse left = withRestsBehind(4, 1, 0, 1);
        CHECK.samePages(left, "of pages on the left", 1, 1, 0, 1, 1);
        CHECK.sameTurns(left, "of pages on the left", 0, 1);
        CHECK.same("none is bad", left.badTurns(0), 0);
    }

    private static void noTurnsOnOnePage() {
        for (int lines = 1; lines <= 6; lines++) {
            ScoreHouse house = Scores.withLines(lines, 6, 20000);
            CHECK.sameTurns(house, lines + " lines");
            CHECK.same("none is bad", house.badTurns(0), 0);
        }
    }

    /** "The bar behind which a break is is the last one of the last line ahead of it." */
    private static void theBarBehindWhichABreakIs() {
        ScoreHouse house = new ScoreHouse();
        for (int bar = 0; bar < 9; bar++) {
            house.addBar(2 + bar % 2, 4);
        }
        house.setPaper(60, 1, 0);
        CHECK.same("three lines of three items", house.lines(2), 3);
        CHECK.same("one turn", house.pageTurns(2), 1);
        CHECK.same("behind the last bar of the first line", house.turnBar(2, 0), 2);
        // 48, 72 and 48 ticks at 120.
        CHECK.same("when the next bar begins", house.turnTime(2, 0), 3500);
    }

    private static void theLastBarOfARestThatEndsALine() {
        ScoreHouse house = new ScoreHouse();
        for (int bar = 0; bar < 24; bar++) {
            house.addBar(bar < 12 ? 2 : 4, 4);
        }
        house.setPaper(40, 1, 0);
        CHECK.same("rests of 12 bars each", house.items(0), 2);
        CHECK.same("two lines", house.lines(0), 2);
        CHECK.same("behind the last bar of the first rest", house.turnBar(0, 0), 11);
        CHECK.same("when bar 12 begins", house.turnTime(0, 0), 12000);
        CHECK.same("no sound at all", house.turnRest(0, 0), 36000);
        CHECK.same("its last bar", house.pageOf(0, 11), 0);
        CHECK.same("the bar behind", house.pageOf(0, 12), 1);
        CHECK.same("the last bar", house.pageOf(0, 23), 1);
    }

    private static void pagesOfAllBars() {
        ScoreHouse house = Scores.withLines(24, 6, 0);
        for (int bar = 0; bar < 24; bar++) {
            CHECK.same("page of bar " + bar, house.pageOf(0, bar), bar / 6);
        }
        CHECK.notThere("bar 24", () -> house.pageOf(0, 24));
        CHECK.notThere("bar -1", () -> house.pageOf(0, -1));
        house.setPaper(40, 6, 20000);
        for (int bar = 0; bar < 24; bar++) {
            CHECK.same("behind a blank page, bar " + bar, house.pageOf(0, bar), 1 + bar / 6);
        }
    }

    /** "A break is timed when the bar behind that is played for the first time" */
    private static void aBreakIsTimedWhenTheBarIsPlayedForTheFirstTime() {
        int[][] repeats = {{0, 0, 0}, {3, 3, 0}, {4, 4, 0}, {0, 7, 0}, {0, 3, 0}, {4, 7, 0}, {2, 5, 0}, {0, 3, 3}};
        int[] times = {5000, 5000, 4000, 4000, 8000, 4000, 4000, 5000};
        for (int i = 0; i < repeats.length; i++) {
            ScoreHouse house = Scores.withLines(8, 4, 0);
            CHECK.sameTurns(house, "two pages", 3);
            CHECK.same("without a repeat", house.turnTime(0, 0), 4000);
            house.addRepeat(repeats[i][0], repeats[i][1], repeats[i][2]);
            CHECK.same("a repeat from " + repeats[i][0] + " to " + repeats[i][1], house.turnTime(0, 0), times[i]);
        }
    }

    // ---- rests at turns; the turn is behind the bar 3, at 4000

    private static ScoreHouse withATurn() {
        ScoreHouse house = Scores.withLines(8, 4, 0);
        CHECK.sameTurns(house, "two pages", 3);
        return house;
    }

    /** "0, if a sound of the voice begins ahead of the beginning of that place and ends behind it" */
    private static void theRestIs0WithinASound() {
        ScoreHouse house = withATurn();
        house.setTie(0, 3, 0, true);
        CHECK.same("tied", house.turnRest(0, 0), 0);
        Scores.makeRest(house, 4);
        CHECK.same("it ends in the bar", house.soundTime(3), 1250);
        CHECK.same("tied to a short one, with a rest behind", house.turnRest(0, 0), 0);
        house.setTie(0, 2, 0, true);
        house.setTie(0, 1, 0, true);
        house.setTie(0, 0, 0, true);
        CHECK.same("from the beginning on", house.turnRest(0, 0), 0);
        house.setTie(0, 3, 0, false);
        house.setPitch(0, 4, 0, 0);
        CHECK.same("it ends just then", house.turnRest(0, 0), 1000);
    }

    /** A sound that ends just when the place begins, and one that begins then. */
    private static void theRestIs0BetweenSounds() {
        ScoreHouse house = withATurn();
        CHECK.same("one behind the other", house.turnRest(0, 0), 0);
        house.setPitch(0, 4, 0, 61);
        house.setTie(0, 3, 0, true);
        CHECK.same("a tie that does not count", house.turnRest(0, 0), 0);
    }

    /** "the time from the end of the latest sound of the voice that begins ahead of it" */
    private static void theRestIsFromTheEndOfTheLatestSound() {
        ScoreHouse house = withATurn();
        Scores.makeRest(house, 3);
        CHECK.same("in the bar ahead", house.turnRest(0, 0), 750);
        house.setPitch(0, 3, 1, 60);
        CHECK.same("a later one there", house.turnRest(0, 0), 500);
        house.setPitch(0, 3, 0, 0);
        CHECK.same("the later one alone", house.turnRest(0, 0), 500);
        house.setPitch(0, 3, 1, 0);
        CHECK.same("two bars ahead", house.turnRest(0, 0), 1000);
        house.setPitch(0, 2, 0, 0);
        house.setPitch(0, 1, 0, 0);
        CHECK.same("in the first bar", house.turnRest(0, 0), 3000);
    }

    /** "or from 0 without one" */
    private static void theRestIsFrom0WithoutASoundAhead() {
        ScoreHouse house = withATurn();
        for (int bar = 0; bar < 4; bar++) {
            house.setPitch(0, bar, 0, 0);
        }
        CHECK.same("to the one that begins then", house.turnRest(0, 0), 4000);
        house.setPitch(0, 0, 0, 60);
        CHECK.same("one in the first bar", house.turnRest(0, 0), 3000);
    }

    /** "to the beginning of the next sound of the voice then or later" */
    private static void theRestIsToTheNextSoundThenOrLater() {
        ScoreHouse house = withATurn();
        house.setPitch(0, 3, 0, 0);
        CHECK.same("then", house.turnRest(0, 0), 1000);
        Scores.makeRest(house, 4);
        CHECK.same("then, a short one", house.turnRest(0, 0), 1000);
        house.setPitch(0, 4, 0, 0);
        house.setPitch(0, 4, 1, 60);
        CHECK.same("a quarter later", house.turnRest(0, 0), 1250);
        house.setPitch(0, 4, 1, 0);
        house.setPitch(0, 5, 0, 0);
        house.setPitch(0, 6, 0, 0);
        CHECK.same("in the last bar", house.turnRest(0, 0), 4000);
    }

    /** "or to the end of playing without one" */
    private static void theRestIsToTheEndOfPlayingWithoutASound() {
        ScoreHouse house = withATurn();
        for (int bar = 4; bar < 8; bar++) {
            house.setPitch(0, bar, 0, 0);
        }
        CHECK.same("to the end", house.turnRest(0, 0), 4000);
        house.addRepeat(4, 7, 0);
        CHECK.same("with bars once more", house.turnRest(0, 0), 8000);
        for (int bar = 0; bar < 4; bar++) {
            house.setPitch(0, bar, 0, 0);
        }
        CHECK.same("from 0 to the end", house.turnRest(0, 0), house.playingTime());
    }

    private static void theRestIsOfTheVoiceAlone() {
        ScoreHouse house = withATurn();
        Scores.makeRest(house, 3);
        house.insert(1, 3, 0, 60, 1, PLAIN);
        house.insert(1, 4, 0, 60, 1, PLAIN);
        house.setTie(1, 3, 0, true);
        CHECK.same("a sound of another voice", house.turnRest(0, 0), 750);
        house.setPitch(0, 4, 0, 0);
        CHECK.same("to the next one of the voice", house.turnRest(0, 0), 1750);
    }

    private static void theLatestSoundIsThatOfPlaying() {
        ScoreHouse house = withATurn();
        house.setPitch(0, 1, 0, 0);
        house.setPitch(0, 2, 0, 0);
        house.setPitch(0, 3, 0, 0);
        house.addRepeat(0, 3, 3);
        // 0 1 2 3 0, and bar 4 at 5000.
        CHECK.same("timed behind the bar once more", house.turnTime(0, 0), 5000);
        CHECK.same("which sounds up to then", house.turnRest(0, 0), 0);
        house.dropRepeat(0);
        house.addRepeat(0, 3, 2);
        CHECK.same("0 1 2 3 0 1", house.turnRest(0, 0), 1000);
        ScoreHouse again = withATurn();
        again.setPitch(0, 3, 0, 0);
        again.setPitch(0, 4, 0, 0);
        again.setPitch(0, 5, 0, 0);
        again.addRepeat(2, 4, 0);
        // 0 1 2 3 4 2: from 3000 to the bar 2 once more.
        CHECK.same("to a bar ahead that is played later", again.turnRest(0, 0), 2000);
    }

    // ---- bad turns

    /** "if the rest at it is shorter than what is wanted": just as long, and one more wanted. */
    private static void theRestIsAsLongAsWanted() {
        ScoreHouse house = withRestsBehind(3, 1, 0, 1);
        house.setPaper(40, 1, 750);
        CHECK.samePages(house, "as long as wanted", 1, 1, 1);
        CHECK.same("its rest", house.turnRest(0, 0), 750);
        CHECK.same("not bad", house.badTurns(0), 0);
        house.setPaper(40, 1, 751);
        CHECK.samePages(house, "one more is wanted, of both", 1, 1, 1);
        CHECK.same("bad", house.badTurns(0), 1);
        house.setPaper(40, 1, 749);
        CHECK.same("less is wanted", house.badTurns(0), 0);
        ScoreHouse pages = withRestsBehind(6, 4, 1);
        CHECK.samePages(pages, "turned there", 2, 4);
        pages.setPaper(40, 4, 751);
        CHECK.samePages(pages, "not turned there", 0, 4, 2);
    }

    private static void theRestOf20000IsAsLongAsWanted() {
        ScoreHouse house = Scores.withLines(5, 4, 20000);
        house.setTempo(0, 30);
        for (int bar = 0; bar < 5; bar++) {
            house.setPitch(0, bar, 0, 0);
        }
        CHECK.same("without a sound", house.playingTime(), 20000);
        CHECK.samePages(house, "as long as wanted", 4, 1);
        CHECK.same("its rest", house.turnRest(0, 0), 20000);
        house.setTempo(4, 31);
        CHECK.same("130 less", house.playingTime(), 19870);
        CHECK.samePages(house, "shorter than wanted", 0, 4, 1);
    }

    /** "1500 at first" */
    private static void theRestWantedIs1500AtFirst() {
        ScoreHouse house = new ScoreHouse();
        for (int bar = 0; bar < 5; bar++) {
            house.addBar(9, 2);
            for (int event = 0; event < 3; event++) {
                house.insert(0, bar, event, 60, 0, ScoreHouse.DOTTED);
            }
        }
        house.setTempo(0, 240);
        house.setPitch(0, 3, 2, 0);
        CHECK.samePages(house, "144 ticks at 240 are 1500", 4, 1);
        CHECK.same("its rest", house.turnRest(0, 0), 1500);
        // The tempo of the bar ahead holds up to there, so no more signs are there.
        house.remove(0, 3, 2);
        house.insert(0, 3, 2, 60, 5, PLAIN);
        house.insert(0, 3, 3, 0, 5, PLAIN);
        house.insert(0, 3, 4, 0, 4, PLAIN);
        house.insert(0, 3, 5, 0, 3, PLAIN);
        house.insert(0, 3, 6, 0, 2, PLAIN);
        house.insert(0, 3, 7, 0, 0, PLAIN);
        CHECK.same("full", house.left(0, 3), 0);
        CHECK.same("a line for each bar", house.lines(0), 5);
        CHECK.samePages(house, "141 ticks at 240 are 1468", 0, 4, 1);
    }

    /** A rest of 1499 is just too short, as long as no paper was told. */
    private static void aRestOf1499IsTooShortAtFirst() {
        ScoreHouse house = new ScoreHouse();
        int[][] ticks = {{0, 0, 0}, {0, 0, 0}, {0, 0, 0}, {0, 0, 1, 2, 2}, {2, 2, 1, 0, 0}};
        for (int bar = 0; bar < 5; bar++) {
            house.addBar(9, 2);
            for (int event = 0; event < ticks[bar].length; event++) {
                house.insert(0, bar, event, 60, ticks[bar][event], ScoreHouse.DOTTED);
            }
        }
        house.setPitch(0, 3, 4, 0);
        house.setPitch(0, 4, 0, 0);
        CHECK.samePages(house, "36 ticks twice at 120 are 1500", 4, 1);
        CHECK.same("its rest", house.turnRest(0, 0), 1500);
        house.setTempo(3, 119);
        house.setTempo(4, 121);
        // Up to 9075 from 8319, and 743.
        CHECK.samePages(house, "at 119 and 121 they are 1499", 0, 4, 1);
        house.setPaper(120, 4, 1499);
        CHECK.samePages(house, "as long as is wanted then", 4, 1);
        CHECK.same("its rest", house.turnRest(0, 0), 1499);
    }

    /** "rest: 0": none is shorter. */
    private static void aRestOf0IsAsLongAs0() {
        ScoreHouse house = Scores.withLines(3, 1, 0);
        CHECK.samePages(house, "0 is wanted", 1, 1, 1);
        CHECK.same("its rest", house.turnRest(0, 0), 0);
        CHECK.same("not bad", house.badTurns(0), 0);
        house.setPaper(40, 1, 1);
        CHECK.same("1 is wanted", house.badTurns(0), 1);
    }

    /** Six lines on pages of three, without a rest that is wanted: turned behind bar 2, if that is not in a phrase. */
    private static ScoreHouse withAPhrase(int bar, int index, int lastBar, int lastIndex) {
        ScoreHouse house = Scores.withLines(6, 3, 0);
        for (int two = 2; two <= 3; two++) {
            house.remove(0, two, 0);
            house.insert(0, two, 0, 60, 2, PLAIN);
            house.insert(0, two, 1, 60, 2, PLAIN);
        }
        CHECK.same("a line for each bar", house.lines(0), 6);
        CHECK.samePages(house, "no phrase", 3, 3);
        house.addPhrase(0, bar, index, lastBar, lastIndex);
        return house;
    }

    /** "if a phrase of the voice begins in the bar behind which it is or ahead, and ends in a later one" */
    private static void aPhraseGoesOverTheTurn() {
        int[][] over = {{2, 1, 3, 0}, {2, 0, 3, 1}, {2, 1, 5, 0}, {2, 0, 4, 0}};
        for (int[] phrase : over) {
            ScoreHouse house = withAPhrase(phrase[0], phrase[1], phrase[2], phrase[3]);
            CHECK.samePages(house, "from bar 2 to " + phrase[2], 2, 3, 1);
            CHECK.same("none is bad", house.badTurns(0), 0);
        }
        CHECK.samePages(withAPhrase(1, 0, 3, 0), "from bar 1 to 3", 1, 3, 2);
        // 100 times 2 squared and 3000: a page with one line has 400.
        CHECK.samePages(withAPhrase(0, 0, 3, 0), "from bar 0 to 3", 0, 3, 3);
        CHECK.samePages(withAPhrase(0, 0, 5, 0), "from bar 0 to 5", 0, 3, 3);
    }

    private static void aPhraseInTheBarDoesNotGoOverTheTurn() {
        CHECK.samePages(withAPhrase(2, 0, 2, 1), "in the bar behind which it is", 3, 3);
        CHECK.samePages(withAPhrase(1, 0, 2, 1), "it ends there", 3, 3);
        CHECK.samePages(withAPhrase(0, 0, 2, 0), "from the first bar on", 3, 3);
        CHECK.samePages(withAPhrase(3, 0, 3, 1), "in the bar behind", 3, 3);
        CHECK.samePages(withAPhrase(3, 0, 5, 0), "it begins behind", 3, 3);
    }

    private static void aPhraseOfAnotherVoiceOrGoneDoesNotMatter() {
        ScoreHouse house = withAPhrase(2, 1, 3, 0);
        CHECK.samePages(house, "there", 2, 3, 1);
        house.dropPhrase(0);
        CHECK.samePages(house, "dropped", 3, 3);
        house.addPhrase(0, 2, 1, 3, 0);
        CHECK.samePages(house, "another one", 2, 3, 1);
        house.remove(0, 3, 0);
        house.insert(0, 3, 0, 60, 2, PLAIN);
        CHECK.samePages(house, "gone with its event", 3, 3);
        house.insert(1, 0, 0, 60, 1, PLAIN);
        house.insert(1, 5, 0, 60, 1, PLAIN);
        house.addPhrase(1, 0, 0, 5, 0);
        CHECK.samePages(house, "of another voice", 3, 3);
    }

    /** "unless a turn behind this bar was allowed for the voice" */
    private static void aTurnIsAllowedBehindItsBarAlone() {
        ScoreHouse house = withAPhrase(0, 0, 5, 0);
        CHECK.samePages(house, "not allowed", 0, 3, 3);
        house.allowTurn(0, 3, true);
        CHECK.samePages(house, "allowed behind the bar behind", 0, 3, 3);
        house.allowTurn(1, 2, true);
        CHECK.samePages(house, "allowed for another voice", 0, 3, 3);
        house.allowTurn(0, 2, true);
        CHECK.samePages(house, "allowed", 3, 3);
        CHECK.same("so it is not bad", house.badTurns(0), 0);
        house.addPhrase(0, 2, 0, 3, 0);
        CHECK.samePages(house, "allowed in two phrases", 3, 3);
        house.allowTurn(0, 2, false);
        CHECK.samePages(house, "not allowed any more", 0, 3, 3);
        house.allowTurn(0, 1, true);
        CHECK.samePages(house, "allowed behind the bar ahead", 2, 3, 1);
    }

    /** What is allowed are turns in phrases, not such with short rests. */
    private static void aTurnThatIsAllowedCanBeTooShort() {
        ScoreHouse house = Scores.withLines(3, 1, 1);
        house.allowTurn(0, 0, true);
        house.allowTurn(0, 1, true);
        CHECK.samePages(house, "too short", 1, 1, 1);
        CHECK.same("bad", house.badTurns(0), 1);
        house.addPhrase(0, 0, 0, 2, 0);
        CHECK.same("in a phrase too", house.badTurns(0), 1);
        house.setPaper(40, 1, 0);
        CHECK.same("not too short, and allowed", house.badTurns(0), 0);
        house.allowTurn(0, 0, false);
        house.allowTurn(0, 1, false);
        CHECK.same("not too short, not allowed", house.badTurns(0), 1);
    }

    private static void aTurnIsBadOnceForBothReasons() {
        ScoreHouse house = Scores.withLines(3, 1, 1);
        house.addPhrase(0, 0, 0, 2, 0);
        house.addPhrase(0, 0, 0, 2, 0);
        CHECK.samePages(house, "too short, and in two phrases", 1, 1, 1);
        CHECK.sameTurns(house, "too short, and in two phrases", 0);
        CHECK.same("one turn", house.badTurns(0), 1);
    }

    private static void asManyBadTurnsAsThereCanBe() {
        CHECK.same("no turns", Scores.withLines(1, 1, 20000).badTurns(0), 0);
        ScoreHouse house = Scores.withLines(24, 1, 20000);
        CHECK.same("behind a blank page", house.pageTurns(0), 11);
        CHECK.same("all of them", house.badTurns(0), 11);
        house.setPaper(40, 1, 0);
        CHECK.same("none is too short", house.badTurns(0), 0);
        CHECK.same("of 12", house.pageTurns(0), 12);
    }

    // ---- what is least

    /** "for each page with lines but the last one" */
    private static void theLastPageMayHaveRoom() {
        CHECK.samePages(Scores.withLines(7, 6, 0), "6 and 1, not 4 and 3", 6, 1);
        CHECK.samePages(Scores.withLines(13, 6, 0), "6, 6 and 1", 6, 6, 1);
        CHECK.samePages(Scores.withLines(1, 6, 0), "the last one is the first", 1);
    }

    /** "100 times the square of the lines for which it has room besides" */
    private static void roomIsWeighedByItsSquare() {
        // Turned behind bar 1 or 2 alone, of which 2 leaves less room.
        CHECK.samePages(withRestsBehind(9, 6, 1, 2), "3 and 6", 3, 6);
        CHECK.samePages(withRestsBehind(9, 6, 2, 4), "5 and 4", 5, 4);
        // 4 and 4 with 2 besides each are 800; 6 and 2 would be 1600, 5 and 3 are 100 and 900.
        CHECK.samePages(withRestsBehind(14, 6, 5, 13), "6, 6 and 2", 6, 6, 2);
        CHECK.samePages(withRestsBehind(20, 6, 5, 13), "6, 4, 4 and 6", 6, 4, 4, 6);
        CHECK.samePages(withRestsBehind(19, 6, 5, 12), "6, 4, 3 and 6", 6, 4, 3, 6);
    }

    /** "for each blank page 3000": as much as others, so more lines on the first page are better. */
    private static void aBlankPageIsNotWorseThan3000() {
        // 400, 900 and 3000 are as much as 2500, 900 and 900.
        CHECK.samePages(withRestsBehind(17, 6, 0, 3, 6), "4 lines first, and a blank page", 4, 3, 0, 6, 4);
    }

    private static void aBlankPageIsNotBetterThan3000() {
        // 2500, 900 and 900 are as much as 3000, 400 and 900.
        CHECK.samePages(withRestsBehind(14, 6, 0, 6), "1 line first, and no blank page", 1, 3, 3, 6, 1);
    }

    /** "for each turn 20000 if the rest at it is too short, and 500000 if it is in a phrase": 11 are less than one. */
    private static void aTurnInAPhraseIsWorseThanShortOnes() {
        ScoreHouse house = withRestsBehind(24, 1, 0, 2, 4, 6, 8, 10, 12, 14, 16, 18, 20, 22);
        CHECK.sameTurns(house, "12 at rests", 0, 2, 4, 6, 8, 10, 12, 14, 16, 18, 20, 22);
        CHECK.same("none is bad", house.badTurns(0), 0);
        house.addPhrase(0, 0, 0, 23, 0);
        CHECK.sameTurns(house, "11 that are too short, all in the phrase", 1, 3, 5, 7, 9, 11, 13, 15, 17, 19, 21);
        CHECK.same("all are bad", house.badTurns(0), 11);
    }

    /** "Of several they are those with the fewest pages" */
    private static void ofSeveralThoseWithTheFewestPages() {
        // 100 and 400 are as much as 5 times 100: 9 pages, and 10.
        ScoreHouse house = withRestsBehind(24, 3, 0, 1, 2, 4, 6, 8, 10, 14, 15, 16, 17, 21);
        CHECK.samePages(house, "9 pages", 3, 3, 3, 3, 3, 2, 1, 3, 3);
    }

    /** "of these the ones with most lines on the first page on which they differ" */
    private static void ofSeveralThoseWithTheMostLinesFirst() {
        // 3, 3, 2 and 3, or 3, 2, 3 and 3, or 2, 3, 3 and 3.
        CHECK.samePages(withRestsBehind(11, 3, 1, 2, 7), "four pages", 3, 3, 2, 3);
        // Without a rest behind bar 2 the last of them alone.
        CHECK.samePages(withRestsBehind(11, 3, 1, 7), "four pages", 2, 3, 3, 3);
    }

    /** "a blank one having 0" */
    private static void ofSeveralABlankPageHas0Lines() {
        // A blank page 0, 1 or 2 is as good: 3000 and no short turn.
        CHECK.samePages(withRestsBehind(4, 1, 0, 1), "the page 2", 1, 1, 0, 1, 1);
        CHECK.samePages(withRestsBehind(4, 1, 1), "the page 0 alone", 0, 1, 1, 1, 1);
    }

    // ---- sheets

    /** "4 on each, with blank ones behind the last one, so that all have a page" */
    private static void fourPagesOnEachSheet() {
        for (int pages = 1; pages <= 12; pages++) {
            ScoreHouse house = Scores.withLines(pages, 1, 0);
            CHECK.same("pages", house.pages(0), pages);
            int sheets = pages <= 4 ? 1 : pages <= 8 ? 2 : 3;
            CHECK.same("sheets of " + pages + " pages", house.sheets(0), sheets);
            for (boolean isFront : new boolean[] {false, true}) {
                for (boolean isLeft : new boolean[] {false, true}) {
                    CHECK.notThere("sheet " + sheets, () -> house.sheetPage(0, sheets, isFront, isLeft));
                    CHECK.notThere("sheet -1", () -> house.sheetPage(0, -1, isFront, isLeft));
                }
            }
        }
        ScoreHouse blank = Scores.withLines(4, 1, 1);
        CHECK.same("a blank page 0 is one of 5", blank.sheets(0), 2);
    }

    /** "With p pages in all, also these": those behind the last one have numbers, too. */
    private static void theFirstAndTheLastPagesOfSheets() {
        CHECK.sameSheet(Scores.withLines(1, 1, 0), 0, 3, 0, 1, 2);
        CHECK.sameSheet(Scores.withLines(4, 1, 0), 0, 3, 0, 1, 2);
        ScoreHouse five = Scores.withLines(5, 1, 0);
        CHECK.sameSheet(five, 0, 7, 0, 1, 6);
        CHECK.sameSheet(five, 1, 5, 2, 3, 4);
        ScoreHouse eight = Scores.withLines(8, 1, 0);
        CHECK.sameSheet(eight, 0, 7, 0, 1, 6);
        CHECK.sameSheet(eight, 1, 5, 2, 3, 4);
    }

    private static void asManySheetsAsThereCanBe() {
        ScoreHouse house = Scores.withLines(24, 1, 0);
        CHECK.same("24 pages", house.sheets(0), 6);
        CHECK.sameSheet(house, 0, 23, 0, 1, 22);
        CHECK.sameSheet(house, 5, 13, 10, 11, 12);
        CHECK.notThere("sheet 6", () -> house.sheetPage(0, 6, true, true));
        house.setPaper(40, 1, 20000);
        CHECK.same("25 pages", house.sheets(0), 7);
        CHECK.sameSheet(house, 0, 27, 0, 1, 26);
        CHECK.sameSheet(house, 6, 15, 12, 13, 14);
        CHECK.notThere("sheet 7", () -> house.sheetPage(0, 7, false, false));
    }
}
