/** Promises 46 to 55. Each bar of these scores is a line of its own, so lines and bars have the same numbers. */
public final class PagesTest {
    private static final ScoreCheck CHECK = new ScoreCheck("PagesTest");
    private static final int PLAIN = ScoreHouse.PLAIN;

    public static void main(String[] args) {
        promises46And47Pages();
        pagesWithShortRests();
        pagesWithPhrases();
        pagesOfEqualFaults();
        paperAtFirst();
        promise48PageOf();
        promises49And50Turns();
        turnsOverBlankPages();
        promise51TurnTime();
        promise52TurnRest();
        promise53BadTurns();
        promises54And55Sheets();
        refusedOfAllParts();
        CHECK.end();
    }

    private static void promises46And47Pages() {
        CHECK.samePages(Scores.withLines(1, 4, 0), "one line", 1);
        CHECK.samePages(Scores.withLines(4, 4, 0), "a full page", 4);
        CHECK.samePages(Scores.withLines(5, 4, 0), "two pages", 4, 1);
        CHECK.samePages(Scores.withLines(12, 4, 0), "three full pages", 4, 4, 4);
        CHECK.samePages(Scores.withLines(24, 6, 0), "four full pages", 6, 6, 6, 6);
        CHECK.samePages(Scores.withLines(3, 1, 0), "pages of one line", 1, 1, 1);
        ScoreHouse first = new ScoreHouse();
        for (int bar = 0; bar < 5; bar++) {
            first.addBar(2 + bar % 2, 4);
        }
        first.setPaper(40, 2, 1500);
        CHECK.same("rests two on a line", first.lines(3), 3);
        CHECK.same("room for two lines", first.pages(3), 2);
        first.setPaper(40, 3, 1500);
        CHECK.same("room for three lines", first.pages(3), 1);
    }

    private static void pagesWithShortRests() {
        ScoreHouse house = Scores.withLines(6, 4, 500);
        // A page 0 of blank is 3000, less than the 20000 of a turn on a short rest.
        CHECK.samePages(house, "a blank page 0", 0, 4, 2);
        Scores.makeRest(house, 1);
        CHECK.samePages(house, "a turn at the rest", 2, 4);
        house.setPaper(40, 4, 751);
        CHECK.samePages(house, "a longer rest is wanted", 0, 4, 2);
        house.setPaper(40, 4, 750);
        CHECK.samePages(house, "just as long a rest is wanted", 2, 4);
        Scores.makeRest(house, 2);
        // 100 times 1 squared is better than 100 times 2 squared.
        CHECK.samePages(house, "the fuller one", 3, 3);
        ScoreHouse longer = Scores.withLines(13, 4, 500);
        Scores.makeRest(longer, 3);
        Scores.makeRest(longer, 11);
        CHECK.samePages(longer, "two turns at rests", 4, 4, 4, 1);
        longer.setPitch(0, 11, 0, 0);
        longer.setPitch(0, 11, 1, 60);
        longer.setPitch(0, 11, 2, 60);
        // Without a rest at 11 each layout of four pages has a short turn, but for those with blank ones.
        CHECK.same("no bad turn with a short last one", longer.badTurns(0), 1);
    }

    private static void pagesWithPhrases() {
        ScoreHouse house = Scores.withLines(4, 1, 20000);
        // All rests are too short: turns behind bars 0 and 2, or behind bar 1 with a blank page 0.
        CHECK.samePages(house, "the fewest short turns", 0, 1, 1, 1, 1);
        house.addPhrase(0, 1, 0, 2, 0);
        CHECK.samePages(house, "a phrase over bars 1 and 2", 1, 1, 1, 1);
        house.allowTurn(0, 1, true);
        CHECK.samePages(house, "allowed", 0, 1, 1, 1, 1);
        house.allowTurn(0, 1, false);
        house.allowTurn(0, 2, true);
        CHECK.samePages(house, "allowed behind another bar", 1, 1, 1, 1);
        house.dropPhrase(0);
        CHECK.samePages(house, "dropped", 0, 1, 1, 1, 1);
        house.insert(1, 0, 0, 60, 1, PLAIN);
        house.insert(1, 3, 0, 60, 1, PLAIN);
        house.addPhrase(1, 0, 0, 3, 0);
        CHECK.samePages(house, "of another voice", 0, 1, 1, 1, 1);
    }

    private static void pagesOfEqualFaults() {
        ScoreHouse house = Scores.withLines(4, 3, 0);
        // 3 and 1: the last page has no fault; 2 and 2 has 100.
        CHECK.samePages(house, "the last page is not weighed", 3, 1);
        ScoreHouse three = Scores.withLines(9, 4, 0);
        // 4, 4 and 1 have no fault.
        CHECK.samePages(three, "full ones first", 4, 4, 1);
        ScoreHouse equal = Scores.withLines(7, 4, 500);
        Scores.makeRest(equal, 2);
        Scores.makeRest(equal, 3);
        CHECK.samePages(equal, "most lines on the first page", 4, 3);
        ScoreHouse later = Scores.withLines(9, 3, 500);
        Scores.makeRest(later, 1);
        Scores.makeRest(later, 6);
        Scores.makeRest(later, 7);
        // Of 2, 3, 2, 2 and 2, 3, 3, 1 the latter; with 3 lines on page 0 or 1 a turn is too short.
        CHECK.samePages(later, "full pages of those without a bad turn", 2, 3, 3, 1);
        // 2500 + 400 + 900 is as much as 3000 + 400 + 400.
        CHECK.samePages(withLinesAndRests(17, 6, 0, 7), "fewer pages than with a blank one", 1, 4, 3, 6, 3);
        // 400 + 900 + 3000 is as much as 2500 + 900 + 900.
        CHECK.samePages(withLinesAndRests(17, 6, 0, 3, 6), "as many pages with a blank one", 4, 3, 0, 6, 4);
    }

    private static void paperAtFirst() {
        ScoreHouse house = new ScoreHouse();
        for (int bar = 0; bar < 6; bar++) {
            house.addBar(9, 2);
            for (int event = 0; event < 3; event++) {
                house.insert(0, bar, event, 60, 0, ScoreHouse.DOTTED);
            }
        }
        CHECK.same("a line for each bar", house.lines(0), 6);
        CHECK.samePages(house, "room for four lines, and a rest is wanted", 0, 4, 2);
        house.setPitch(0, 2, 2, 0);
        house.setTempo(2, 240);
        CHECK.same("the rest at its end", house.time(2) / 3, 1500);
        CHECK.samePages(house, "a rest of 1500 is enough", 3, 3);
        house.setPaper(120, 4, 1501);
        CHECK.samePages(house, "more is wanted", 0, 4, 2);
    }

    private static ScoreHouse withLinesAndRests(int count, int room, int... rests) {
        ScoreHouse house = Scores.withLines(count, room, 500);
        for (int bar : rests) {
            Scores.makeRest(house, bar);
        }
        return house;
    }

    private static void promise48PageOf() {
        ScoreHouse house = Scores.withLines(6, 4, 500);
        int[] due = {1, 1, 1, 1, 2, 2};
        for (int bar = 0; bar < due.length; bar++) {
            CHECK.same("page of bar " + bar, house.pageOf(0, bar), due[bar]);
        }
        CHECK.notThere("bar 6", () -> house.pageOf(0, 6));
        CHECK.notThere("bar -1", () -> house.pageOf(0, -1));
        ScoreHouse rests = new ScoreHouse();
        for (int bar = 0; bar < 6; bar++) {
            rests.addBar(bar < 3 ? 2 : 3, 4);
        }
        rests.setTempo(3, 30);
        rests.setPaper(40, 1, 0);
        CHECK.same("a rest of 3 bars on a line", rests.lines(0), 2);
        CHECK.same("the last bar of the first rest", rests.pageOf(0, 2), 0);
        CHECK.same("the last bar of the second rest", rests.pageOf(0, 5), 1);
    }

    private static void promises49And50Turns() {
        CHECK.sameTurns(Scores.withLines(4, 4, 0), "one page");
        CHECK.sameTurns(Scores.withLines(8, 4, 0), "two pages", 3);
        CHECK.sameTurns(Scores.withLines(12, 4, 0), "three pages", 3);
        CHECK.sameTurns(Scores.withLines(16, 4, 0), "four pages", 3, 11);
        ScoreHouse house = Scores.withLines(6, 4, 500);
        CHECK.sameTurns(house, "two pages behind a blank one");
        CHECK.notThere("turn 0", () -> house.turnBar(0, 0));
        Scores.makeRest(house, 1);
        CHECK.sameTurns(house, "at the rest", 1);
        CHECK.notThere("turn 1", () -> house.turnBar(0, 1));
        CHECK.notThere("turn -1", () -> house.turnBar(0, -1));
    }

    private static void turnsOverBlankPages() {
        ScoreHouse house = Scores.withLines(4, 1, 500);
        Scores.makeRest(house, 1);
        // Page 0 on the right; it is left blank to turn behind bar 1.
        CHECK.samePages(house, "turned behind bar 1", 0, 1, 1, 1, 1);
        CHECK.sameTurns(house, "turned behind bar 1", 1);
        ScoreHouse blank = Scores.withLines(3, 1, 500);
        Scores.makeRest(blank, 0);
        Scores.makeRest(blank, 1);
        CHECK.samePages(blank, "no blank is wanted", 1, 1, 1);
        ScoreHouse between = Scores.withLines(5, 1, 500);
        Scores.makeRest(between, 0);
        Scores.makeRest(between, 1);
        Scores.makeRest(between, 3);
        // Without a blank page it is turned behind 2, too short. A blank page 0 would be as good as one behind line 1.
        CHECK.samePages(between, "more lines on the page 0", 1, 1, 0, 1, 1, 1);
        CHECK.sameTurns(between, "more lines on the page 0", 0, 1, 3);
        ScoreHouse within = Scores.withLines(6, 1, 500);
        Scores.makeRest(within, 0);
        Scores.makeRest(within, 2);
        Scores.makeRest(within, 3);
        // Turns behind 0, 2 and 4, of which 4 is short; so a blank page is put behind line 3 and turned behind it.
        CHECK.samePages(within, "a blank page within", 1, 1, 1, 1, 0, 1, 1);
        CHECK.sameTurns(within, "a blank page within", 0, 2, 3);
    }

    private static void promise51TurnTime() {
        ScoreHouse house = Scores.withLines(8, 4, 0);
        CHECK.same("when bar 4 begins", house.turnTime(0, 0), 4000);
        house.addRepeat(1, 3, 1);
        CHECK.same("when bar 4 is played for the first time", house.turnTime(0, 0), 6000);
        house.dropRepeat(1);
        house.addRepeat(3, 5, 0);
        CHECK.same("the first of two times", house.turnTime(0, 0), 4000);
        house.setTempo(0, 60);
        CHECK.same("by the tempo, told so that the width stays", house.turnTime(0, 0), 8000);
        CHECK.notThere("turn 1", () -> house.turnTime(0, 1));
        CHECK.notThere("turn -1", () -> house.turnTime(0, -1));
    }

    private static void promise52TurnRest() {
        ScoreHouse house = Scores.withLines(8, 4, 0);
        CHECK.same("none", house.turnRest(0, 0), 0);
        Scores.makeRest(house, 3);
        CHECK.same("from the end ahead to what begins then", house.turnRest(0, 0), 750);
        house.setPitch(0, 4, 0, 0);
        house.setPitch(0, 5, 0, 0);
        CHECK.same("to what begins later", house.turnRest(0, 0), 2750);
        house.setPitch(0, 6, 0, 0);
        house.setPitch(0, 7, 0, 0);
        CHECK.same("to the end of playing", house.turnRest(0, 0), 4750);
        for (int bar = 0; bar < 4; bar++) {
            house.setPitch(0, bar, 0, 0);
        }
        CHECK.same("from 0 on", house.turnRest(0, 0), 8000);
        house.insert(1, 3, 0, 60, 1, PLAIN);
        CHECK.same("sounds of other voices do not matter", house.turnRest(0, 0), 8000);
        house.addRepeat(0, 3, 3);
        CHECK.same("with a bar once more", house.turnRest(0, 0), 9000);
        ScoreHouse tied = Scores.withLines(8, 4, 0);
        tied.setTie(0, 3, 0, true);
        CHECK.same("none within a sound", tied.turnRest(0, 0), 0);
        tied.setPaper(40, 4, 1);
        CHECK.same("so it is too short", tied.pageLines(0, 0), 0);
        CHECK.notThere("turn 1", () -> house.turnRest(0, 1));
        CHECK.notThere("turn -1", () -> house.turnRest(0, -1));
        ScoreHouse repeated = Scores.withLines(4, 2, 0);
        Scores.makeRest(repeated, 0);
        repeated.addRepeat(0, 1, 1);
        CHECK.same("timed behind the bar played once more", repeated.turnTime(0, 0), 3000);
        CHECK.same("the rest of what was played once more", repeated.turnRest(0, 0), 750);
    }

    private static void promise53BadTurns() {
        ScoreHouse house = Scores.withLines(3, 1, 0);
        CHECK.same("a rest of 0 is as wanted", house.badTurns(0), 0);
        house.setPaper(40, 1, 1);
        // The page 0 left blank, there is one turn, too.
        CHECK.same("a rest of 0 is too short", house.badTurns(0), 1);
        CHECK.same("of turns", house.pageTurns(0), 1);
        house.setPaper(40, 1, 0);
        house.addPhrase(0, 0, 0, 1, 0);
        CHECK.same("a blank page keeps it out of the phrase", house.badTurns(0), 0);
        CHECK.samePages(house, "kept out of the phrase", 0, 1, 1, 1);
        house.addPhrase(0, 1, 0, 2, 0);
        CHECK.same("in one of two phrases", house.badTurns(0), 1);
        house.setPaper(40, 1, 20000);
        CHECK.same("for both reasons", house.badTurns(0), 1);
        house.allowTurn(0, 0, true);
        CHECK.same("allowed, but too short", house.badTurns(0), 1);
        CHECK.same("behind the bar where it is allowed", house.turnBar(0, 0), 0);
        house.setPaper(40, 1, 0);
        CHECK.same("allowed", house.badTurns(0), 0);
        CHECK.same("where it is allowed", house.turnBar(0, 0), 0);
        ScoreHouse two = Scores.withLines(2, 1, 0);
        two.remove(0, 0, 0);
        two.insert(0, 0, 0, 60, 2, PLAIN);
        two.insert(0, 0, 1, 60, 2, PLAIN);
        two.addPhrase(0, 0, 0, 0, 1);
        CHECK.samePages(two, "a phrase that ends in the bar", 1, 1);
        CHECK.same("a phrase that ends in the bar", two.badTurns(0), 0);
    }

    private static void promises54And55Sheets() {
        int[] sheets = {1, 1, 1, 1, 2, 2, 2, 2, 3};
        for (int pages = 1; pages <= sheets.length; pages++) {
            ScoreHouse house = Scores.withLines(pages, 1, 0);
            CHECK.same("sheets of " + pages + " pages", house.sheets(0), sheets[pages - 1]);
        }
        ScoreHouse house = Scores.withLines(9, 1, 0);
        int[][] due = {{11, 0, 1, 10}, {9, 2, 3, 8}, {7, 4, 5, 6}};
        for (int sheet = 0; sheet < due.length; sheet++) {
            CHECK.same("front left " + sheet, house.sheetPage(0, sheet, true, true), due[sheet][0]);
            CHECK.same("front right " + sheet, house.sheetPage(0, sheet, true, false), due[sheet][1]);
            CHECK.same("back left " + sheet, house.sheetPage(0, sheet, false, true), due[sheet][2]);
            CHECK.same("back right " + sheet, house.sheetPage(0, sheet, false, false), due[sheet][3]);
        }
        CHECK.notThere("sheet 3", () -> house.sheetPage(0, 3, true, true));
        CHECK.notThere("sheet -1", () -> house.sheetPage(0, -1, false, false));
        ScoreHouse blank = Scores.withLines(4, 1, 20000);
        CHECK.same("the blank page 0 counts", blank.sheets(0), 2);
        CHECK.same("its last page", blank.sheetPage(0, 0, true, true), 7);
    }

    private static void refusedOfAllParts() {
        ScoreHouse house = Scores.withLines(2, 1, 0);
        house.insert(1, 1, 0, 60, 2, PLAIN);
        CHECK.badState("pages", () -> house.pages(1));
        CHECK.badState("pageLines", () -> house.pageLines(1, 9));
        CHECK.badState("pageOf", () -> house.pageOf(1, 9));
        CHECK.badState("pageTurns", () -> house.pageTurns(1));
        CHECK.badState("turnBar", () -> house.turnBar(1, 9));
        CHECK.badState("turnTime", () -> house.turnTime(1, 9));
        CHECK.badState("turnRest", () -> house.turnRest(1, 9));
        CHECK.badState("badTurns", () -> house.badTurns(1));
        CHECK.badState("sheets", () -> house.sheets(1));
        CHECK.badState("sheetPage", () -> house.sheetPage(1, 9, true, true));
        for (int voice : new int[] {-1, 4}) {
            CHECK.badArgument("pages", () -> house.pages(voice));
            CHECK.badArgument("pageLines", () -> house.pageLines(voice, 9));
            CHECK.badArgument("pageOf", () -> house.pageOf(voice, 9));
            CHECK.badArgument("pageTurns", () -> house.pageTurns(voice));
            CHECK.badArgument("turnBar", () -> house.turnBar(voice, 9));
            CHECK.badArgument("turnTime", () -> house.turnTime(voice, 9));
            CHECK.badArgument("turnRest", () -> house.turnRest(voice, 9));
            CHECK.badArgument("badTurns", () -> house.badTurns(voice));
            CHECK.badArgument("sheets", () -> house.sheets(voice));
            CHECK.badArgument("sheetPage", () -> house.sheetPage(voice, 9, true, true));
        }
        ScoreHouse none = new ScoreHouse();
        CHECK.badState("no bars", () -> none.pages(0));
        CHECK.badState("no bars", () -> none.pageOf(0, 0));
    }
}
