/** Scores that several tests begin with. */
final class Scores {
    private static final int PLAIN = ScoreHouse.PLAIN;

    private Scores() { }

    static ScoreHouse withBars(int count, int beats, int unit) {
        ScoreHouse house = new ScoreHouse();
        for (int bar = 0; bar < count; bar++) {
            house.addBar(beats, unit);
        }
        return house;
    }

    /** Puts a half note into an empty bar, which fills one of 2 quarters. */
    static void fillBar(ScoreHouse house, int voice, int bar) {
        house.insert(voice, bar, 0, 60, 1, PLAIN);
    }

    /** Bars of a second, each full of a note of the voice 0 for as long as it sounds, and a line of its own. */
    static ScoreHouse withLines(int count, int room, int rest) {
        ScoreHouse house = withBars(count, 2, 4);
        for (int bar = 0; bar < count; bar++) {
            fillBar(house, 0, bar);
        }
        house.setPaper(40, room, rest);
        return house;
    }

    /** A quarter of a second of sound in such a bar, so that a rest of 750 is behind it. */
    static void makeRest(ScoreHouse house, int bar) {
        house.remove(0, bar, 0);
        house.insert(0, bar, 0, 60, 3, PLAIN);
        house.insert(0, bar, 1, 0, 3, PLAIN);
        house.insert(0, bar, 2, 0, 2, PLAIN);
    }
}
