/** Promises 1 to 8. */
public final class BarsTest {
    private static final Check CHECK = new Check("BarsTest");

    public static void main(String[] args) {
        promise1NewObject();
        promise2AddBar();
        promise3SetMetre();
        promise4SetTempo();
        promise5Bars();
        promise6Length();
        promise7Tempo();
        promise8Time();
        CHECK.end();
    }

    private static void promise1NewObject() {
        ScoreHouse house = new ScoreHouse();
        CHECK.same("bars of a new object", house.bars(), 0);
        CHECK.same("phrases of a new object", house.phrases(), 0);
        CHECK.same("places of a new object", house.places(), 0);
        CHECK.same("sounds of a new object", house.sounds(), 0);
        CHECK.same("playing time of a new object", house.playingTime(), 0);
        for (int voice = 0; voice < 4; voice++) {
            int asked = voice;
            CHECK.badState("items without bars", () -> house.items(asked));
            CHECK.same("voice transposed at first", house.transpose(voice, 0), 0);
        }
    }

    private static void promise2AddBar() {
        ScoreHouse house = new ScoreHouse();
        CHECK.same("first bar", house.addBar(1, 8), 0);
        CHECK.same("second bar", house.addBar(9, 2), 1);
        CHECK.same("third bar", house.addBar(3, 4), 2);
        for (int beats : new int[] {0, -1, 10, Integer.MAX_VALUE, Integer.MIN_VALUE}) {
            CHECK.badArgument("beats " + beats, () -> house.addBar(beats, 4));
        }
        for (int unit : new int[] {0, 1, 3, 5, 6, 7, 9, 16, -2, -4, Integer.MIN_VALUE}) {
            CHECK.badArgument("unit " + unit, () -> house.addBar(4, unit));
        }
        CHECK.same("refused bars are not there", house.bars(), 3);
        for (int bar = 3; bar < 24; bar++) {
            CHECK.same("bar", house.addBar(4, 4), bar);
        }
        CHECK.badState("25th bar", () -> house.addBar(4, 4));
        CHECK.badArgument("25th bar with a wrong unit", () -> house.addBar(4, 3));
        CHECK.same("bars when full", house.bars(), 24);
    }

    private static void promise3SetMetre() {
        ScoreHouse house = Scores.withBars(2, 4, 4);
        CHECK.same("length before", house.setMetre(1, 3, 8), 96);
        CHECK.same("length before", house.setMetre(1, 9, 2), 36);
        CHECK.same("length now", house.length(1), 432);
        CHECK.same("other bar", house.length(0), 96);
        CHECK.notThere("metre of bar 2", () -> house.setMetre(2, 4, 4));
        CHECK.notThere("metre of bar -1, wrong beats too", () -> house.setMetre(-1, 0, 3));
        CHECK.badArgument("no beats", () -> house.setMetre(0, 0, 4));
        CHECK.badArgument("10 beats", () -> house.setMetre(0, 10, 4));
        CHECK.badArgument("unit 3", () -> house.setMetre(0, 4, 3));
        house.insert(3, 0, 0, 60, 1, ScoreHouse.PLAIN);
        house.insert(1, 0, 0, 0, 1, ScoreHouse.DOTTED);
        CHECK.same("as many ticks as are there", house.setMetre(0, 3, 4), 96);
        CHECK.badState("fewer ticks than voice 1 has", () -> house.setMetre(0, 5, 8));
        CHECK.badArgument("wrong unit ahead of too few ticks", () -> house.setMetre(0, 1, 0));
        CHECK.same("refused metre is not set", house.length(0), 72);
        house.remove(1, 0, 0);
        CHECK.same("voice 3 has room", house.setMetre(0, 2, 4), 72);
        CHECK.badState("fewer ticks than voice 3 has", () -> house.setMetre(0, 1, 4));
    }

    private static void promise4SetTempo() {
        ScoreHouse house = Scores.withBars(2, 4, 4);
        CHECK.same("none told before", house.setTempo(0, 30), ScoreHouse.NONE);
        CHECK.same("told before", house.setTempo(0, 240), 30);
        CHECK.same("told before", house.setTempo(0, ScoreHouse.NONE), 240);
        CHECK.same("none told any more", house.setTempo(0, ScoreHouse.NONE), ScoreHouse.NONE);
        CHECK.same("none told at the other", house.setTempo(1, 100), ScoreHouse.NONE);
        CHECK.notThere("tempo at bar 2", () -> house.setTempo(2, 100));
        CHECK.notThere("tempo at bar -1, wrong too", () -> house.setTempo(-1, 0));
        for (int tempo : new int[] {-2, 0, 29, 241, Integer.MAX_VALUE, Integer.MIN_VALUE}) {
            CHECK.badArgument("tempo " + tempo, () -> house.setTempo(1, tempo));
        }
        CHECK.same("refused tempo is not told", house.setTempo(1, 99), 100);
    }

    private static void promise5Bars() {
        ScoreHouse house = new ScoreHouse();
        CHECK.same("no bars", house.bars(), 0);
        house.addBar(4, 4);
        CHECK.same("a bar", house.bars(), 1);
        house.addBar(4, 4);
        CHECK.same("two bars", house.bars(), 2);
    }

    private static void promise6Length() {
        ScoreHouse house = new ScoreHouse();
        int[] units = {2, 4, 8};
        int[] ticks = {48, 24, 12};
        for (int i = 0; i < units.length; i++) {
            for (int beats = 1; beats <= 8; beats++) {
                int bar = house.addBar(beats, units[i]);
                CHECK.same(beats + " of " + units[i], house.length(bar), beats * ticks[i]);
            }
        }
        house.setMetre(0, 9, 2);
        CHECK.same("9 of 2", house.length(0), 432);
        CHECK.notThere("length of bar 24", () -> house.length(24));
        CHECK.notThere("length of bar -1", () -> house.length(-1));
    }

    private static void promise7Tempo() {
        ScoreHouse house = Scores.withBars(5, 4, 4);
        house.setTempo(1, 60);
        house.setTempo(3, 240);
        int[] due = {120, 60, 60, 240, 240};
        for (int bar = 0; bar < due.length; bar++) {
            CHECK.same("tempo at " + bar, house.tempo(bar), due[bar]);
        }
        house.setTempo(1, ScoreHouse.NONE);
        CHECK.same("tempo of the beginning", house.tempo(2), 120);
        CHECK.same("tempo told later", house.tempo(3), 240);
        house.addRepeat(2, 4, 0);
        CHECK.same("tempo is by bars, not by playing", house.tempo(2), 120);
        CHECK.notThere("tempo of bar 5", () -> house.tempo(5));
        CHECK.notThere("tempo of bar -1", () -> house.tempo(-1));
    }

    private static void promise8Time() {
        ScoreHouse house = new ScoreHouse();
        house.addBar(4, 4);
        CHECK.same("at 120", house.time(0), 2000);
        house.setTempo(0, 30);
        CHECK.same("at 30", house.time(0), 8000);
        house.setTempo(0, 240);
        CHECK.same("at 240", house.time(0), 1000);
        house.setTempo(0, 130);
        CHECK.same("rounded down", house.time(0), 1846);
        house.addBar(1, 8);
        CHECK.same("of the tempo that holds", house.time(1), 230);
        house.setMetre(0, 9, 2);
        CHECK.same("the longest bar", house.time(0), 8307);
        CHECK.notThere("time of bar 2", () -> house.time(2));
        CHECK.notThere("time of bar -1", () -> house.time(-1));
    }
}
