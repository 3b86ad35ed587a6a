/** The boundary cases of promises 36 and 43 to 45, a method for each sentence of the document that names one. */
public final class LinesEdgesTest {
    private static final ScoreCheck CHECK = new ScoreCheck("LinesEdgesTest");
    private static final int PLAIN = ScoreHouse.PLAIN;

    public static void main(String[] args) {
        theWidthIs40To400();
        theLinesAre1To6();
        theRestIs0To20000();
        thePaperIs120WideAtFirst();
        eachLineHasOneItemOrMore();
        asManyLinesAsThereCanBe();
        asManyItemsInALineAsThereCanBe();
        severalItemsAreAtMostAsWideAsThePaper();
        theLastLineHasAQuarterRoundedDown();
        theOtherLinesHaveTheWholeSquare();
        aLineThatIsJustAsWide();
        aLineThatIsWiderByOne();
        aLastLineThatIsWiderHasTheWholeSquare();
        nothingIsPutBesideALineThatIsWider();
        theBadnessOfAllTogetherIsLeast();
        ofSeveralTheMostItemsInTheFirstLine();
        ofSeveralTheMostItemsInALaterLine();
        CHECK.end();
    }

    /** Empty bars that are a rest each, each 20 wide, as the metre is another one each time. */
    private static ScoreHouse withRests(int count) {
        ScoreHouse house = new ScoreHouse();
        for (int bar = 0; bar < count; bar++) {
            house.addBar(2 + bar % 2, 4);
        }
        return house;
    }

    private static int square(int number) {
        return number * number;
    }

    /** "width: 40 to 400" */
    private static void theWidthIs40To400() {
        ScoreHouse house = withRests(1);
        house.setPaper(40, 4, 0);
        CHECK.sameLines(house, "40", square(20) / 4, 0);
        CHECK.badArgument("39", () -> house.setPaper(39, 4, 0));
        CHECK.sameLines(house, "still 40", square(20) / 4, 0);
        house.setPaper(400, 4, 0);
        CHECK.sameLines(house, "400", square(380) / 4, 0);
        CHECK.badArgument("401", () -> house.setPaper(401, 4, 0));
        CHECK.sameLines(house, "still 400", square(380) / 4, 0);
    }

    /** "lines: 1 to 6" */
    private static void theLinesAre1To6() {
        ScoreHouse house = withRests(14);
        house.setPaper(40, 1, 0);
        CHECK.same("7 lines", house.lines(0), 7);
        CHECK.same("room for 1", house.pages(0), 7);
        CHECK.badArgument("0", () -> house.setPaper(40, 0, 0));
        CHECK.same("still 1", house.pages(0), 7);
        house.setPaper(40, 6, 0);
        CHECK.same("room for 6", house.pageLines(0, 0), 6);
        CHECK.badArgument("7", () -> house.setPaper(40, 7, 0));
        CHECK.same("still 6", house.pageLines(0, 0), 6);
        CHECK.same("and one", house.pageLines(0, 1), 1);
    }

    /** "rest: 0 to 20000" */
    private static void theRestIs0To20000() {
        ScoreHouse house = withRests(10);
        house.setTempo(0, 30);
        for (int bar = 0; bar < 10; bar += 2) {
            house.setMetre(bar, 9, 8);
            house.setMetre(bar + 1, 3, 8);
        }
        // 5 times 108 and 36 ticks at 30, of 9000 and 3000: 60000 without a sound.
        CHECK.same("the time of playing", house.playingTime(), 60000);
        house.setPaper(40, 1, 20000);
        CHECK.same("no turn is bad", house.badTurns(0), 0);
        CHECK.badArgument("20001", () -> house.setPaper(40, 1, 20001));
        CHECK.badArgument("-1", () -> house.setPaper(40, 1, -1));
        house.setPaper(40, 1, 0);
        CHECK.same("no turn is bad", house.badTurns(0), 0);
    }

    /** "The paper has a width, 120 at first": six rests are just as wide, seven are not. */
    private static void thePaperIs120WideAtFirst() {
        CHECK.sameLines(withRests(6), "120", 0, 0);
        CHECK.sameLines(withRests(7), "140", square(20) + square(80) / 4, 0, 5);
        CHECK.sameLines(withRests(5), "100", square(20) / 4, 0);
    }

    private static void eachLineHasOneItemOrMore() {
        ScoreHouse one = withRests(1);
        CHECK.sameLines(one, "one item", square(100) / 4, 0);
        ScoreHouse house = withRests(3);
        house.setPaper(40, 4, 0);
        CHECK.sameLines(house, "two and one", square(20) / 4, 0, 2);
        CHECK.badState("no line without bars", () -> new ScoreHouse().lines(0));
    }

    private static ScoreHouse withFullBars(int count, int beats, int unit, int kind) {
        ScoreHouse house = new ScoreHouse();
        for (int bar = 0; bar < count; bar++) {
            house.addBar(beats, unit);
            house.insert(0, bar, 0, 60, kind, PLAIN);
        }
        return house;
    }

    private static void asManyLinesAsThereCanBe() {
        ScoreHouse house = withFullBars(24, 2, 4, 1);
        house.setPaper(40, 4, 0);
        CHECK.same("24 lines", house.lines(0), 24);
        for (int line = 0; line < 24; line++) {
            CHECK.same("first item", house.firstItem(0, line), line);
        }
        CHECK.notThere("line 24", () -> house.firstItem(0, 24));
        CHECK.same("bars of 25, 22 and 22 at last", house.badness(0), square(15) + 22 * square(18) + square(18) / 4);
    }

    private static void asManyItemsInALineAsThereCanBe() {
        // Each 10 + 4 + 2 wide, and the first one 3 more: 387.
        ScoreHouse house = withFullBars(24, 1, 8, 3);
        house.setPaper(387, 4, 0);
        CHECK.sameLines(house, "24 items just as wide", 0, 0);
        house.setPaper(400, 4, 0);
        CHECK.sameLines(house, "24 items", square(13) / 4, 0);
        house.setPaper(386, 4, 0);
        CHECK.sameLines(house, "wider by one", square(79) + square(306) / 4, 0, 19);
    }

    /** "several items only if their widths together are at most that of the paper" */
    private static void severalItemsAreAtMostAsWideAsThePaper() {
        ScoreHouse house = withRests(3);
        house.setPaper(60, 4, 0);
        CHECK.sameLines(house, "just as wide", 0, 0);
        house.setPaper(59, 4, 0);
        CHECK.sameLines(house, "wider by one", square(19) + square(39) / 4, 0, 2);
        house.setPaper(61, 4, 0);
        CHECK.sameLines(house, "narrower by one", 0, 0);
    }

    /** "for the last line a quarter of that" */
    private static void theLastLineHasAQuarterRoundedDown() {
        int[] quarters = {0, 0, 1, 2, 4, 6, 9, 12};
        for (int narrower = 0; narrower < quarters.length; narrower++) {
            ScoreHouse house = withRests(3);
            house.setPaper(60 + narrower, 4, 0);
            CHECK.sameLines(house, "narrower by " + narrower, quarters[narrower], 0);
        }
    }

    /** "The badness of a line is the square of what it is narrower than the paper" */
    private static void theOtherLinesHaveTheWholeSquare() {
        for (int narrower = 0; narrower < 8; narrower++) {
            ScoreHouse house = withFullBars(2, 2, 4, 1);
            house.setTempo(0, 120);
            house.setMark(0, 0, 0, 1);
            house.setMark(0, 1, 0, 1);
            // Bars of 32 and 25: both together are wider.
            house.setPaper(40 + narrower, 4, 0);
            CHECK.sameLines(house, "8 and " + narrower, square(8 + narrower) + square(15 + narrower) / 4, 0, 1);
        }
    }

    /** Three bars of 25, 41 and 22. */
    private static ScoreHouse withAWideBar() {
        ScoreHouse house = withFullBars(3, 2, 4, 1);
        house.remove(0, 1, 0);
        for (int index = 0; index < 4; index++) {
            house.insert(0, 1, index, 60, 3, PLAIN);
        }
        house.setMark(0, 1, 2, 0);
        house.setTempo(1, 120);
        CHECK.same("its width", house.itemWidth(0, 1), 41);
        return house;
    }

    private static void aLineThatIsJustAsWide() {
        ScoreHouse house = withAWideBar();
        house.setPaper(41, 4, 0);
        CHECK.sameLines(house, "41 and 41", square(16) + square(19) / 4, 0, 1, 2);
        house.setPaper(42, 4, 0);
        CHECK.sameLines(house, "42 and 41", square(17) + 1 + square(20) / 4, 0, 1, 2);
    }

    /** "a line that is wider .. has 1000000, and the whole square of what it is wider" */
    private static void aLineThatIsWiderByOne() {
        ScoreHouse house = withAWideBar();
        house.setPaper(40, 4, 0);
        CHECK.sameLines(house, "40 and 41", square(15) + 1000001 + square(18) / 4, 0, 1, 2);
        house.setMark(0, 1, 3, 0);
        CHECK.sameLines(house, "40 and 46", square(15) + 1000036 + square(18) / 4, 0, 1, 2);
    }

    /** "also the last one" */
    private static void aLastLineThatIsWiderHasTheWholeSquare() {
        ScoreHouse house = new ScoreHouse();
        house.addBar(2, 4);
        for (int index = 0; index < 4; index++) {
            house.insert(0, 0, index, 60, 3, PLAIN);
        }
        house.setTempo(0, 60);
        // 3 + 4 + 10 + 4 * 6
        house.setPaper(41, 4, 0);
        CHECK.sameLines(house, "just as wide", 0, 0);
        house.setPaper(40, 4, 0);
        CHECK.sameLines(house, "wider by 1", 1000001, 0);
        house.setMark(0, 0, 0, 5);
        CHECK.sameLines(house, "wider by 4", 1000016, 0);
    }

    private static void nothingIsPutBesideALineThatIsWider() {
        ScoreHouse house = withAWideBar();
        house.insert(1, 2, 0, 60, 1, PLAIN);
        house.setMark(0, 1, 0, 0);
        house.setMark(0, 1, 1, 0);
        house.setMark(0, 1, 3, 0);
        // 34 + 12 + 6 + 4
        CHECK.same("its width", house.itemWidth(0, 1), 56);
        house.setPaper(47, 4, 0);
        CHECK.sameLines(house, "one wider between", square(22) + 1000081 + square(25) / 4, 0, 1, 2);
        house.setPaper(80, 4, 0);
        CHECK.sameLines(house, "25 and 56 are wider than 80, 78 are not", square(55) + 1, 0, 1);
        house.setPaper(81, 4, 0);
        CHECK.sameLines(house, "25 and 56 are as wide as 81", square(59) / 4, 0, 2);
    }

    /** "The lines are those with which the badness of all together is least": not the fullest ones. */
    private static void theBadnessOfAllTogetherIsLeast() {
        ScoreHouse house = withRests(5);
        house.setPaper(80, 4, 0);
        // Of 4 and 1: 900 of a quarter; of 3 and 2: 400 and 400.
        CHECK.sameLines(house, "3 and 2", square(20) + square(40) / 4, 0, 3);
        ScoreHouse four = withRests(4);
        four.setPaper(79, 4, 0);
        // Of 3 and 1: 361 and 870; of 2 and 2: 1521 and 380.
        CHECK.sameLines(four, "3 and 1", square(19) + square(59) / 4, 0, 3);
        ScoreHouse bars = withRests(5);
        for (int event = 0; event < 4; event++) {
            bars.insert(0, 4, event, 60, 3, PLAIN);
            bars.setMark(0, 4, event, 2);
        }
        // Four rests, and a bar of 3 + 10 + 24 + 12 + 6, which has a line of its own.
        bars.setPaper(60, 4, 0);
        CHECK.sameLines(bars, "2 and 2, not 3 and 1", 2 * square(20) + square(5) / 4, 0, 2, 4);
    }

    /** Rests, and a bar that is so wide that it has a line of its own on paper of 60. */
    private static ScoreHouse withRestsAndAWideBar(int rests) {
        ScoreHouse house = withRests(rests + 1);
        int events = house.length(rests) / 12;
        for (int event = 0; event < events; event++) {
            house.insert(0, rests, event, 60, 3, PLAIN);
        }
        house.setMark(0, rests, 0, 1);
        house.setMark(0, rests, 1, 1);
        house.setPaper(60, 4, 0);
        return house;
    }

    /** "of several the ones with most items in the first line in which they differ" */
    private static void ofSeveralTheMostItemsInTheFirstLine() {
        // 5 rests are 3 and 2, or 2 and 3; 7 are 3, 2 and 2, or 2, 3 and 2, or 2, 2 and 3. The bar is 57 wide.
        CHECK.sameLines(withRestsAndAWideBar(5), "5 rests", square(20) + square(3) / 4, 0, 3, 5);
        CHECK.sameLines(withRestsAndAWideBar(7), "7 rests", 2 * square(20) + square(3) / 4, 0, 3, 5, 7);
    }

    private static void ofSeveralTheMostItemsInALaterLine() {
        // 8 rests are 3, 3 and 2, or 3, 2 and 3, or 2, 3 and 3. The bar is 45 wide.
        CHECK.sameLines(withRestsAndAWideBar(8), "8 rests", square(20) + square(15) / 4, 0, 3, 6, 8);
        // 11 rests are four lines, one of them with 2.
        CHECK.sameLines(withRestsAndAWideBar(11), "11 rests", square(20) + square(3) / 4, 0, 3, 6, 9, 11);
    }
}
