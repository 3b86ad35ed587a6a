/** Promises 36 to 45. */
public final class PartsTest {
    private static final ScoreCheck CHECK = new ScoreCheck("PartsTest");
    private static final int PLAIN = ScoreHouse.PLAIN, DOTTED = ScoreHouse.DOTTED, TRIPLET = ScoreHouse.TRIPLET;
    private static final int BAR = ScoreHouse.BAR, REST = ScoreHouse.REST, CUE = ScoreHouse.CUE;

    public static void main(String[] args) {
        promise36SetPaper();
        promises37To40Items();
        restsThatArePartedByWhatIsTold();
        restsThatArePartedByRepeats();
        promise41Cue();
        promise42WidthOfBars();
        promise42WidthOfRestsAndCues();
        promise42WidthOfSigns();
        promises43To45Lines();
        linesThatAreTooWide();
        linesOfEqualBadness();
        refusedOfAllParts();
        CHECK.end();
    }

    private static void promise36SetPaper() {
        ScoreHouse house = Scores.withBars(1, 2, 4);
        CHECK.same("width 120 at first: a quarter of 100 squared", house.badness(0), 2500);
        house.setPaper(400, 6, 20000);
        CHECK.same("width 400", house.badness(0), 380 * 380 / 4);
        for (int[] wrong : new int[][] {{39, 4, 0}, {401, 4, 0}, {100, 0, 0}, {100, 7, 0}, {100, 4, -1},
                {100, 4, 20001}, {Integer.MIN_VALUE, 1, 0}}) {
            CHECK.badArgument("paper", () -> house.setPaper(wrong[0], wrong[1], wrong[2]));
        }
        CHECK.same("refused paper is not set", house.badness(0), 380 * 380 / 4);
        house.setPaper(40, 1, 0);
        CHECK.same("width 40", house.badness(0), 100);
    }

    private static int[] item(int... told) {
        return told;
    }

    private static void promises37To40Items() {
        ScoreHouse house = Scores.withBars(6, 2, 4);
        CHECK.sameItems(house, "all empty", 0, item(REST, 0, 6));
        Scores.fillBar(house, 0, 2);
        Scores.fillBar(house, 0, 3);
        CHECK.sameItems(house, "rests around", 0, item(REST, 0, 2), item(BAR, 2, 1), item(BAR, 3, 1), item(REST, 4, 2));
        CHECK.sameItems(house, "another voice", 1, item(REST, 0, 6));
        house.setPitch(0, 2, 0, 0);
        CHECK.sameItems(house, "a bar with a rest is a bar", 0,
                item(REST, 0, 2), item(BAR, 2, 1), item(BAR, 3, 1), item(REST, 4, 2));
        house.remove(0, 2, 0);
        CHECK.sameItems(house, "emptied", 0, item(REST, 0, 3), item(BAR, 3, 1), item(REST, 4, 2));
        house.addBar(2, 4);
        CHECK.sameItems(house, "one bar more", 0, item(REST, 0, 3), item(BAR, 3, 1), item(REST, 4, 3));
    }

    private static void restsThatArePartedByWhatIsTold() {
        ScoreHouse house = Scores.withBars(8, 2, 4);
        house.setMetre(3, 4, 8);
        CHECK.sameItems(house, "another unit of the same length", 0,
                item(REST, 0, 3), item(REST, 3, 1), item(REST, 4, 4));
        house.setMetre(3, 3, 4);
        CHECK.sameItems(house, "other beats", 0, item(REST, 0, 3), item(REST, 3, 1), item(REST, 4, 4));
        house.setMetre(3, 2, 4);
        house.setTempo(5, 120);
        CHECK.sameItems(house, "the tempo that holds, told", 0, item(REST, 0, 5), item(REST, 5, 3));
        house.setTempo(5, ScoreHouse.NONE);
        house.setTempo(0, 60);
        CHECK.sameItems(house, "a tempo at the first bar", 0, item(REST, 0, 8));
    }

    private static void restsThatArePartedByRepeats() {
        ScoreHouse house = Scores.withBars(8, 2, 4);
        house.addRepeat(2, 5, 0);
        CHECK.sameItems(house, "a repeat", 0, item(REST, 0, 2), item(REST, 2, 4), item(REST, 6, 2));
        house.dropRepeat(2);
        house.addRepeat(2, 5, 1);
        CHECK.sameItems(house, "an ending", 0, item(REST, 0, 2), item(REST, 2, 3), item(REST, 5, 1), item(REST, 6, 2));
        house.dropRepeat(2);
        house.addRepeat(2, 5, 3);
        CHECK.sameItems(house, "three endings", 0,
                item(REST, 0, 2), item(REST, 2, 1), item(REST, 3, 3), item(REST, 6, 2));
        house.dropRepeat(2);
        CHECK.sameItems(house, "dropped", 0, item(REST, 0, 8));
    }

    private static void promise41Cue() {
        ScoreHouse house = Scores.withBars(6, 2, 4);
        Scores.fillBar(house, 1, 5);
        Scores.fillBar(house, 3, 4);
        CHECK.sameItems(house, "a rest of 5 bars", 1, item(REST, 0, 4), item(CUE, 4, 1, 3), item(BAR, 5, 1));
        Scores.fillBar(house, 0, 4);
        CHECK.sameItems(house, "the lowest of several", 1, item(REST, 0, 4), item(CUE, 4, 1, 0), item(BAR, 5, 1));
        house.setMetre(0, 3, 4);
        CHECK.sameItems(house, "a rest of 4 bars", 1,
                item(REST, 0, 1), item(REST, 1, 3), item(CUE, 4, 1, 0), item(BAR, 5, 1));
        house.setTempo(2, 90);
        CHECK.sameItems(house, "a rest of 3 bars", 1,
                item(REST, 0, 1), item(REST, 1, 1), item(REST, 2, 3), item(BAR, 5, 1));
        house.setTempo(2, ScoreHouse.NONE);
        house.remove(0, 4, 0);
        house.remove(3, 4, 0);
        Scores.fillBar(house, 0, 3);
        Scores.fillBar(house, 0, 5);
        CHECK.sameItems(house, "no other voice in the last bar", 1,
                item(REST, 0, 1), item(REST, 1, 4), item(BAR, 5, 1));
        house.insert(2, 4, 0, 0, 5, PLAIN);
        CHECK.sameItems(house, "a cue that rests and is not right", 1,
                item(REST, 0, 1), item(REST, 1, 3), item(CUE, 4, 1, 2), item(BAR, 5, 1));
        house.remove(1, 5, 0);
        CHECK.sameItems(house, "none behind is not empty", 1, item(REST, 0, 1), item(REST, 1, 5));
        house.remove(0, 5, 0);
        house.remove(0, 3, 0);
        Scores.fillBar(house, 1, 5);
        house.setTempo(5, 100);
        CHECK.sameItems(house, "what is told behind does not matter", 1,
                item(REST, 0, 1), item(REST, 1, 3), item(CUE, 4, 1, 2), item(BAR, 5, 1));
    }

    private static void promise42WidthOfBars() {
        ScoreHouse house = Scores.withBars(2, 4, 4);
        Scores.fillBar(house, 0, 0);
        Scores.fillBar(house, 0, 0);
        house.insert(0, 1, 0, 60, 3, DOTTED);
        house.insert(0, 1, 1, 60, 4, PLAIN);
        house.insert(0, 1, 2, 60, 5, PLAIN);
        house.insert(0, 1, 3, 0, 4, DOTTED);
        house.insert(0, 1, 4, 60, 3, PLAIN);
        house.insert(0, 1, 5, 60, 3, TRIPLET);
        house.insert(0, 1, 6, 60, 2, TRIPLET);
        house.insert(0, 1, 7, 60, 3, PLAIN);
        house.insert(0, 1, 8, 60, 4, PLAIN);
        house.insert(0, 1, 9, 60, 4, PLAIN);
        CHECK.same("it is full", house.left(0, 1), 0);
        CHECK.same("two halves", house.itemWidth(0, 0), 3 + 10 + 2 * (4 + 8));
        // Ticks of 18, 6, 3, 9, 12, 8, 16, 12, 6 and 6; two are dotted.
        int plain = 10 + 10 * 4 + (3 + 1 + 0 + 1 + 2 + 1 + 2 + 2 + 1 + 1) + 2 * 2;
        CHECK.same("ten events", house.itemWidth(0, 1), plain);
        house.setMark(0, 1, 0, 0);
        CHECK.same("a mark", house.itemWidth(0, 1), plain + 3);
        house.setMark(0, 1, 2, 1);
        CHECK.same("two, not side by side", house.itemWidth(0, 1), plain + 6);
        house.setMark(0, 1, 1, 5);
        CHECK.same("three side by side", house.itemWidth(0, 1), plain + 9 + 4);
        house.setMark(0, 0, 1, 3);
        CHECK.same("a mark in the bar ahead", house.itemWidth(0, 1), plain + 9 + 4);
    }

    private static void promise42WidthOfRestsAndCues() {
        ScoreHouse house = Scores.withBars(7, 2, 4);
        Scores.fillBar(house, 0, 6);
        CHECK.same("a rest of 6 bars", house.itemWidth(0, 0), 3 + 16 + 6);
        house.insert(2, 5, 0, 60, 3, DOTTED);
        house.insert(2, 5, 1, 60, 4, PLAIN);
        house.insert(2, 5, 2, 60, 3, PLAIN);
        house.setMark(2, 5, 0, 1);
        house.setMark(2, 5, 1, 1);
        CHECK.same("a rest of 5 bars", house.itemWidth(0, 0), 3 + 16 + 5);
        CHECK.same("a cue of 18, 6 and 12 ticks", house.itemWidth(0, 1), 10 + 3 * 3 + 2 + 0 + 1);
        Scores.fillBar(house, 3, 5);
        CHECK.same("the lowest is the cue", house.itemWidth(0, 1), 10 + 3 * 3 + 2 + 0 + 1);
    }

    private static void promise42WidthOfSigns() {
        ScoreHouse house = Scores.withBars(8, 2, 4);
        Scores.fillBar(house, 0, 7);
        CHECK.same("the bar 0 and 7 bars", house.itemWidth(0, 0), 3 + 16 + 7);
        house.setTempo(0, 50);
        CHECK.same("and a tempo", house.itemWidth(0, 0), 7 + 16 + 7);
        house.addRepeat(0, 6, 0);
        CHECK.same("and a repeat that begins, and ends", house.itemWidth(0, 0), 11 + 16 + 7);
        Scores.fillBar(house, 1, 6);
        CHECK.same("it ends with the cue now", house.itemWidth(0, 0), 9 + 16 + 6);
        CHECK.same("the cue where it ends", house.itemWidth(0, 1), 2 + 10 + 3 + 6);
        house.dropRepeat(0);
        house.addRepeat(7, 7, 0);
        house.setTempo(7, 200);
        house.setMetre(7, 4, 8);
        CHECK.same("all signs", house.itemWidth(0, 2), 3 + 4 + 2 + 2 + 10 + 4 + 8);
        house.dropRepeat(7);
        house.addRepeat(5, 7, 1);
        CHECK.same("endings have no sign", house.itemWidth(0, 2), 3 + 4 + 2 + 10 + 4 + 8);
        CHECK.same("rest ahead of the repeat", house.itemWidth(0, 0), 7 + 16 + 5);
        CHECK.same("rest with its first two bars", house.itemWidth(0, 1), 2 + 16 + 2);
    }

    /** Bars of which each is as wide as 22 and its signs. */
    private static ScoreHouse withFullBars(int count) {
        ScoreHouse house = Scores.withBars(count, 2, 4);
        for (int bar = 0; bar < count; bar++) {
            Scores.fillBar(house, 0, bar);
        }
        return house;
    }

    private static void promises43To45Lines() {
        ScoreHouse house = withFullBars(5);
        CHECK.sameLines(house, "just one line", 7 * 7 / 4, 0);
        house.setPaper(113, 4, 0);
        CHECK.sameLines(house, "just as wide as the paper", 0, 0);
        house.setPaper(112, 4, 0);
        // 25 + 44 and 44: 43 squared and 68 squared / 4; 25 + 66 and 22: 21 squared and 90 squared / 4.
        CHECK.sameLines(house, "too wide by one", 21 * 21 + 90 * 90 / 4, 0, 4);
        house.setPaper(70, 4, 0);
        CHECK.sameLines(house, "a full line ahead of the last", 1 + 26 * 26 / 4, 0, 3);
    }

    private static void linesThatAreTooWide() {
        ScoreHouse house = Scores.withBars(3, 9, 2);
        for (int event = 0; event < 3; event++) {
            house.insert(0, 1, event, 60, 0, DOTTED);
        }
        house.setPaper(100, 4, 0);
        // A rest is 3 + 17 or 17 wide, the bar 10 + 3 * (4 + 24 + 2) = 100.
        CHECK.sameLines(house, "as wide as the paper", 80 * 80 + 83 * 83 / 4, 0, 1, 2);
        house.setPaper(99, 4, 0);
        CHECK.sameLines(house, "wider by one", 79 * 79 + 1000001 + 82 * 82 / 4, 0, 1, 2);
        ScoreHouse last = Scores.withBars(1, 9, 2);
        for (int event = 0; event < 3; event++) {
            last.insert(0, 0, event, 60, 0, DOTTED);
        }
        last.setPaper(40, 4, 0);
        CHECK.sameLines(last, "the last line, wider by 63", 1000000 + 63 * 63, 0);
    }

    private static void linesOfEqualBadness() {
        ScoreHouse house = new ScoreHouse();
        house.addBar(2, 4);
        house.addBar(3, 4);
        house.addBar(2, 4);
        house.addBar(3, 4);
        for (int event = 0; event < 6; event++) {
            house.insert(0, 3, event, 60, 3, PLAIN);
        }
        // Rests 20 wide each, and a bar 3 + 10 + 6 * 6 = 49 wide, which has a line of its own.
        house.setPaper(50, 4, 0);
        CHECK.sameLines(house, "of 2 and 1 or 1 and 2 items", 10 * 10 + 30 * 30, 0, 2, 3);
        ScoreHouse longer = new ScoreHouse();
        for (int bar = 0; bar < 6; bar++) {
            longer.addBar(2 + bar % 2, 4);
        }
        for (int event = 0; event < 6; event++) {
            longer.insert(0, 5, event, 60, 3, PLAIN);
        }
        longer.setPaper(60, 4, 0);
        // Of 5 rests 3 and 2, or 2 and 3.
        CHECK.sameLines(longer, "of 3 and 2 or 2 and 3 items", 20 * 20 + 11 * 11 / 4, 0, 3, 5);
    }

    private static void refusedOfAllParts() {
        ScoreHouse house = Scores.withBars(2, 2, 4);
        house.insert(1, 1, 0, 60, 2, PLAIN);
        CHECK.same("another voice can be drawn", house.items(0), 1);
        CHECK.badState("items", () -> house.items(1));
        CHECK.badState("itemKind", () -> house.itemKind(1, 9));
        CHECK.badState("itemBar", () -> house.itemBar(1, 9));
        CHECK.badState("itemBars", () -> house.itemBars(1, 9));
        CHECK.badState("cue", () -> house.cue(1, 9));
        CHECK.badState("itemWidth", () -> house.itemWidth(1, 9));
        CHECK.badState("lines", () -> house.lines(1));
        CHECK.badState("firstItem", () -> house.firstItem(1, 9));
        CHECK.badState("badness", () -> house.badness(1));
        for (int voice : new int[] {-1, 4, Integer.MAX_VALUE}) {
            CHECK.badArgument("items", () -> house.items(voice));
            CHECK.badArgument("itemKind", () -> house.itemKind(voice, 9));
            CHECK.badArgument("itemBar", () -> house.itemBar(voice, 9));
            CHECK.badArgument("itemBars", () -> house.itemBars(voice, 9));
            CHECK.badArgument("cue", () -> house.cue(voice, 9));
            CHECK.badArgument("itemWidth", () -> house.itemWidth(voice, 9));
            CHECK.badArgument("lines", () -> house.lines(voice));
            CHECK.badArgument("firstItem", () -> house.firstItem(voice, 9));
            CHECK.badArgument("badness", () -> house.badness(voice));
        }
        for (int item : new int[] {-1, 1, Integer.MAX_VALUE}) {
            CHECK.notThere("itemKind", () -> house.itemKind(0, item));
            CHECK.notThere("itemBar", () -> house.itemBar(0, item));
            CHECK.notThere("itemBars", () -> house.itemBars(0, item));
            CHECK.notThere("cue", () -> house.cue(0, item));
            CHECK.notThere("itemWidth", () -> house.itemWidth(0, item));
        }
        house.insert(1, 1, 1, 60, 2, PLAIN);
        CHECK.same("it can be drawn when it is right", house.items(1), 2);
    }
}
