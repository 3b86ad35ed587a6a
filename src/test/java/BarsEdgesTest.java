/** The boundary cases of promises 1 to 8, a method for each sentence of the document that names one. */
public final class BarsEdgesTest {
    private static final Check CHECK = new Check("BarsEdgesTest");
    private static final int PLAIN = ScoreHouse.PLAIN, DOTTED = ScoreHouse.DOTTED, TRIPLET = ScoreHouse.TRIPLET;
    private static final int NONE = ScoreHouse.NONE;

    public static void main(String[] args) {
        aNewObjectHasNoBars();
        aNewObjectHasNothingElse();
        aNewObjectHasNoParts();
        objectsHaveNothingInCommon();
        itIsUsedFor512Calls();
        barsAreNumberedFrom0AndThereAreAtMost24();
        theMetreHas1To9Beats();
        theUnitIs2Or4Or8();
        theLengthIs96TimesBeatsByUnit();
        aMetreHasRoomForWhatIsThere();
        aMetreHasRoomForEachVoice();
        theTempoIs30To240();
        theTempoHoldsUpToTheNextOne();
        aheadOfTheFirstTempoItIs120();
        theTimeIsRoundedDown();
        CHECK.end();
    }

    /** "A new object: No bars." */
    private static void aNewObjectHasNoBars() {
        ScoreHouse house = new ScoreHouse();
        CHECK.same("bars", house.bars(), 0);
        CHECK.notThere("length", () -> house.length(0));
        CHECK.notThere("tempo", () -> house.tempo(0));
        CHECK.notThere("time", () -> house.time(0));
        CHECK.notThere("events", () -> house.events(0, 0));
        CHECK.same("the first bar", house.addBar(4, 4), 0);
        CHECK.same("then there is one", house.bars(), 1);
        CHECK.same("with a length", house.length(0), 96);
        CHECK.notThere("and no second one", () -> house.length(1));
    }

    private static void aNewObjectHasNothingElse() {
        ScoreHouse house = new ScoreHouse();
        CHECK.same("places", house.places(), 0);
        CHECK.same("0 without bars", house.playingTime(), 0);
        CHECK.same("sounds", house.sounds(), 0);
        CHECK.same("phrases", house.phrases(), 0);
        CHECK.notThere("barAt", () -> house.barAt(0));
        CHECK.notThere("startOf", () -> house.startOf(0));
        CHECK.notThere("soundStart", () -> house.soundStart(0));
        CHECK.notThere("dropPhrase", () -> house.dropPhrase(0));
        CHECK.notThere("dropRepeat", () -> house.dropRepeat(0));
        for (int voice = 0; voice < 4; voice++) {
            CHECK.same("time of voice " + voice, house.timeByEvents(voice), 0);
            CHECK.same("transposed, voice " + voice, house.transpose(voice, 12), 0);
            CHECK.same("without notes it can be by all", house.transpose(voice, -12), 12);
        }
    }

    /** "The part of a voice can be drawn, if there are bars": none, and one. */
    private static void aNewObjectHasNoParts() {
        for (int v = 0; v < 4; v++) {
            int voice = v;
            ScoreHouse house = new ScoreHouse();
            CHECK.badState("items", () -> house.items(voice));
            CHECK.badState("itemKind", () -> house.itemKind(voice, 0));
            CHECK.badState("lines", () -> house.lines(voice));
            CHECK.badState("badness", () -> house.badness(voice));
            CHECK.badState("pages", () -> house.pages(voice));
            CHECK.badState("pageOf", () -> house.pageOf(voice, 0));
            CHECK.badState("pageTurns", () -> house.pageTurns(voice));
            CHECK.badState("badTurns", () -> house.badTurns(voice));
            CHECK.badState("sheets", () -> house.sheets(voice));
            house.addBar(1, 8);
            CHECK.same("items of one bar", house.items(voice), 1);
            CHECK.same("lines of one bar", house.lines(voice), 1);
            CHECK.same("pages of one bar", house.pages(voice), 1);
            CHECK.same("turns of one bar", house.pageTurns(voice), 0);
            CHECK.same("bad ones of none", house.badTurns(voice), 0);
            CHECK.same("sheets of one bar", house.sheets(voice), 1);
        }
    }

    private static void objectsHaveNothingInCommon() {
        ScoreHouse one = Scores.withBars(2, 4, 4);
        one.insert(0, 0, 0, 60, 0, PLAIN);
        one.setTempo(0, 60);
        one.setPaper(40, 1, 0);
        one.transpose(0, 3);
        ScoreHouse other = Scores.withBars(1, 4, 4);
        CHECK.same("bars of the other", other.bars(), 1);
        CHECK.same("events of the other", other.events(0, 0), 0);
        CHECK.same("tempo of the other", other.tempo(0), 120);
        CHECK.same("paper of the other", other.badness(0), (120 - 20) * (120 - 20) / 4);
        CHECK.same("transposed, the other", other.transpose(0, 0), 0);
        CHECK.same("bars of the one", one.bars(), 2);
    }

    /** "An object is used for at most 512 calls": the last one of them still answers. */
    private static void itIsUsedFor512Calls() {
        ScoreHouse house = Scores.withBars(24, 4, 4);
        for (int call = 24; call < 511; call++) {
            CHECK.same("call " + call, house.setTempo(call % 24, 30 + call % 200),
                    call < 48 ? NONE : 30 + (call - 24) % 200);
        }
        CHECK.same("the 512th call", house.tempo(6), 30 + 510 % 200);
        ScoreHouse asked = Scores.withBars(1, 4, 4);
        asked.insert(0, 0, 0, 60, 1, PLAIN);
        asked.insert(0, 0, 1, 60, 1, PLAIN);
        for (int call = 3; call < 511; call += 2) {
            asked.setTie(0, 0, 0, call % 4 == 3);
            CHECK.same("sounds in call " + (call + 1), asked.sounds(), call % 4 == 3 ? 1 : 2);
        }
        CHECK.same("the 512th call", asked.pages(0), 1);
    }

    /** "Bars are numbered from 0; there are at most 24." */
    private static void barsAreNumberedFrom0AndThereAreAtMost24() {
        ScoreHouse house = new ScoreHouse();
        for (int bar = 0; bar < 24; bar++) {
            CHECK.same("number", house.addBar(1 + bar % 9, 8), bar);
            CHECK.same("bars then", house.bars(), bar + 1);
            int behind = bar + 1;
            CHECK.notThere("the next one", () -> house.length(behind));
        }
        CHECK.badState("a 25th", () -> house.addBar(4, 4));
        CHECK.same("24 stay", house.bars(), 24);
        CHECK.same("the last one", house.length(23), 12 * (1 + 23 % 9));
        CHECK.notThere("bar 24", () -> house.length(24));
        CHECK.notThere("bar -1", () -> house.length(-1));
        CHECK.badState("a 25th, asked again", () -> house.addBar(4, 4));
    }

    /** "a number of beats, 1 to 9" */
    private static void theMetreHas1To9Beats() {
        for (int unit : new int[] {2, 4, 8}) {
            ScoreHouse house = new ScoreHouse();
            CHECK.same("1 beat", house.addBar(1, unit), 0);
            CHECK.same("9 beats", house.addBar(9, unit), 1);
            CHECK.badArgument("0 beats", () -> house.addBar(0, unit));
            CHECK.badArgument("10 beats", () -> house.addBar(10, unit));
            CHECK.same("9 beats set", house.setMetre(0, 9, unit), 96 / unit);
            CHECK.same("1 beat set", house.setMetre(0, 1, unit), 864 / unit);
            CHECK.badArgument("0 beats set", () -> house.setMetre(0, 0, unit));
            CHECK.badArgument("10 beats set", () -> house.setMetre(0, 10, unit));
            CHECK.same("nothing changed", house.length(0), 96 / unit);
            CHECK.same("no bar more", house.bars(), 2);
        }
    }

    /** "of a unit, 2, 4 or 8" */
    private static void theUnitIs2Or4Or8() {
        ScoreHouse house = new ScoreHouse();
        for (int unit = -9; unit <= 17; unit++) {
            int asked = unit;
            if (unit == 2 || unit == 4 || unit == 8) {
                CHECK.same("length of 3 of unit " + unit, house.length(house.addBar(3, unit)), 288 / unit);
                house.setMetre(0, 3, unit);
                CHECK.same("length set, unit " + unit, house.length(0), 288 / unit);
            } else {
                int bars = house.bars();
                CHECK.badArgument("unit " + unit, () -> house.addBar(3, asked));
                CHECK.same("no bar of unit " + unit, house.bars(), bars);
            }
        }
        for (int unit : new int[] {-8, 0, 1, 3, 5, 6, 7, 9, 16}) {
            CHECK.badArgument("unit " + unit + " set", () -> house.setMetre(0, 3, unit));
            CHECK.same("unit " + unit + " is not set", house.length(0), 36);
        }
    }

    /** "its length is 96 * beats / unit ticks": 12 to 432. */
    private static void theLengthIs96TimesBeatsByUnit() {
        ScoreHouse house = Scores.withBars(1, 4, 4);
        int[] units = {2, 4, 8};
        int[] ticks = {48, 24, 12};
        int before = 96;
        for (int i = 0; i < units.length; i++) {
            for (int beats = 1; beats <= 9; beats++) {
                CHECK.same("length before", house.setMetre(0, beats, units[i]), before);
                before = beats * ticks[i];
                CHECK.same(beats + " of " + units[i], house.length(0), before);
                CHECK.same("all is left", house.left(0, 0), before);
            }
        }
        house.setMetre(0, 1, 8);
        CHECK.same("the shortest", house.length(0), 12);
        house.setMetre(0, 9, 2);
        CHECK.same("the longest", house.length(0), 432);
    }

    /** "if some voice has more ticks in it than it would have": just as many, and one more. */
    private static void aMetreHasRoomForWhatIsThere() {
        ScoreHouse house = Scores.withBars(1, 4, 4);
        house.insert(0, 0, 0, 60, 1, PLAIN);
        house.insert(0, 0, 1, 60, 4, DOTTED);
        house.insert(0, 0, 2, 60, 5, PLAIN);
        CHECK.same("60 ticks into 60", house.setMetre(0, 5, 8), 96);
        CHECK.same("full then", house.left(0, 0), 0);
        house.setMetre(0, 4, 4);
        house.remove(0, 0, 2);
        house.insert(0, 0, 2, 60, 5, TRIPLET);
        CHECK.same("59 ticks into 60", house.setMetre(0, 5, 8), 96);
        CHECK.same("one is left", house.left(0, 0), 1);
        house.setMetre(0, 4, 4);
        house.insert(0, 0, 3, 60, 5, TRIPLET);
        CHECK.same("61 ticks", house.left(0, 0), 35);
        CHECK.badState("61 ticks into 60", () -> house.setMetre(0, 5, 8));
        CHECK.same("nothing changed", house.length(0), 96);
        CHECK.same("61 ticks into 72", house.setMetre(0, 3, 4), 96);
        for (int index = 3; index >= 0; index--) {
            house.remove(0, 0, index);
        }
        CHECK.same("nothing there into the shortest", house.setMetre(0, 1, 8), 72);
    }

    private static void aMetreHasRoomForEachVoice() {
        for (int voice = 0; voice < 4; voice++) {
            ScoreHouse house = Scores.withBars(3, 4, 4);
            house.insert(voice, 1, 0, 0, 2, PLAIN);
            CHECK.same("as much as voice " + voice + " has", house.setMetre(1, 1, 4), 96);
            CHECK.badState("less than voice " + voice + " has", () -> house.setMetre(1, 1, 8));
            CHECK.same("refused, so as before", house.length(1), 24);
            CHECK.same("another bar may", house.setMetre(0, 1, 8), 96);
            CHECK.same("and the one behind", house.setMetre(2, 1, 8), 96);
        }
        ScoreHouse full = new ScoreHouse();
        full.addBar(9, 2);
        for (int voice = 0; voice < 4; voice++) {
            full.insert(voice, 0, 0, 60, 0, DOTTED);
        }
        CHECK.same("all have as much", full.setMetre(0, 3, 2), 432);
        CHECK.badState("all have more", () -> full.setMetre(0, 5, 4));
    }

    /** "tempo: 30 to 240, or NONE" */
    private static void theTempoIs30To240() {
        ScoreHouse house = Scores.withBars(24, 4, 4);
        for (int bar : new int[] {0, 11, 23}) {
            CHECK.same("none told", house.setTempo(bar, 30), NONE);
            CHECK.same("the slowest", house.tempo(bar), 30);
            CHECK.badArgument("29", () -> house.setTempo(bar, 29));
            CHECK.badArgument("241", () -> house.setTempo(bar, 241));
            CHECK.badArgument("-2", () -> house.setTempo(bar, -2));
            CHECK.badArgument("0", () -> house.setTempo(bar, 0));
            CHECK.same("still the slowest", house.tempo(bar), 30);
            CHECK.same("told before", house.setTempo(bar, 240), 30);
            CHECK.same("the fastest", house.tempo(bar), 240);
            CHECK.same("none any more", house.setTempo(bar, NONE), 240);
            CHECK.same("none was told", house.setTempo(bar, NONE), NONE);
            CHECK.same("as ahead of the first one", house.tempo(bar), 120);
        }
        CHECK.notThere("bar 24", () -> house.setTempo(24, 100));
        CHECK.notThere("bar -1", () -> house.setTempo(-1, 100));
    }

    /** "it holds from this bar on up to the next one at which one is told" */
    private static void theTempoHoldsUpToTheNextOne() {
        ScoreHouse house = Scores.withBars(24, 4, 4);
        house.setTempo(3, 60);
        house.setTempo(20, 61);
        CHECK.same("ahead of it", house.tempo(2), 120);
        CHECK.same("at it", house.tempo(3), 60);
        CHECK.same("ahead of the next one", house.tempo(19), 60);
        CHECK.same("at the next one", house.tempo(20), 61);
        CHECK.same("at the last bar", house.tempo(23), 61);
        house.setTempo(4, 62);
        CHECK.same("a bar for itself", house.tempo(3), 60);
        CHECK.same("right behind it", house.tempo(4), 62);
        house.setTempo(4, NONE);
        CHECK.same("taken away", house.tempo(4), 60);
        house.setTempo(23, 63);
        CHECK.same("told at the last bar", house.tempo(23), 63);
        CHECK.same("the bar ahead of the last", house.tempo(22), 61);
    }

    /** "ahead of the first one it is 120" */
    private static void aheadOfTheFirstTempoItIs120() {
        ScoreHouse house = Scores.withBars(3, 4, 4);
        for (int bar = 0; bar < 3; bar++) {
            CHECK.same("none is told", house.tempo(bar), 120);
        }
        house.setTempo(2, 200);
        CHECK.same("just ahead", house.tempo(1), 120);
        house.setTempo(0, 33);
        CHECK.same("told at the bar 0", house.tempo(0), 33);
        CHECK.same("so none is ahead of the first one", house.tempo(1), 33);
        house.addBar(4, 4);
        CHECK.same("a new bar has what holds", house.tempo(3), 200);
    }

    /** "ticks take ticks * 2500 / tempo milliseconds", "all divisions are rounded down". */
    private static void theTimeIsRoundedDown() {
        ScoreHouse house = new ScoreHouse();
        house.addBar(1, 8);
        house.addBar(9, 2);
        int[] tempos = {30, 77, 120, 125, 126, 239, 240};
        int[] shortest = {1000, 389, 250, 240, 238, 125, 125};
        int[] longest = {36000, 14025, 9000, 8640, 8571, 4518, 4500};
        for (int i = 0; i < tempos.length; i++) {
            house.setTempo(0, tempos[i]);
            CHECK.same("12 ticks at " + tempos[i], house.time(0), shortest[i]);
            CHECK.same("432 ticks at " + tempos[i], house.time(1), longest[i]);
            CHECK.same("each for itself", house.playingTime(), shortest[i] + longest[i]);
        }
        CHECK.notThere("bar 2", () -> house.time(2));
        CHECK.notThere("bar -1", () -> house.time(-1));
    }
}
