/** Compares whole rows of answers, and that nothing is ahead of their first one or behind their last one. */
final class ScoreCheck extends Check {
    ScoreCheck(String name) {
        super(name);
    }

    void samePlaces(ScoreHouse house, String what, int... bars) {
        same(what + ": places", house.places(), bars.length);
        for (int place = 0; place < Math.min(house.places(), bars.length); place++) {
            same(what + ": bar of place " + place, house.barAt(place), bars[place]);
        }
        for (int place : new int[] {-1, bars.length}) {
            notThere(what + ": bar of place " + place, () -> house.barAt(place));
            notThere(what + ": start of place " + place, () -> house.startOf(place));
        }
    }

    /** Each sound is told by its start and its time. */
    void sameSounds(ScoreHouse house, String what, int... startsAndTimes) {
        int sounds = startsAndTimes.length / 2;
        same(what + ": sounds", house.sounds(), sounds);
        for (int sound = 0; sound < Math.min(house.sounds(), sounds); sound++) {
            same(what + ": start of " + sound, house.soundStart(sound), startsAndTimes[2 * sound]);
            same(what + ": time of " + sound, house.soundTime(sound), startsAndTimes[2 * sound + 1]);
        }
        for (int sound : new int[] {-1, sounds}) {
            notThere(what + ": voice of " + sound, () -> house.soundVoice(sound));
            notThere(what + ": start of " + sound, () -> house.soundStart(sound));
            notThere(what + ": time of " + sound, () -> house.soundTime(sound));
            notThere(what + ": pitch of " + sound, () -> house.soundPitch(sound));
            notThere(what + ": loudness of " + sound, () -> house.loudness(sound));
        }
    }

    /** Each item is told by its kind, first bar and bars, and a CUE by its voice too. */
    void sameItems(ScoreHouse house, String what, int voice, int[]... items) {
        same(what + ": items", house.items(voice), items.length);
        for (int item = 0; item < Math.min(house.items(voice), items.length); item++) {
            same(what + ": kind of " + item, house.itemKind(voice, item), items[item][0]);
            same(what + ": bar of " + item, house.itemBar(voice, item), items[item][1]);
            same(what + ": bars of " + item, house.itemBars(voice, item), items[item][2]);
            int cue = items[item].length > 3 ? items[item][3] : ScoreHouse.NONE;
            same(what + ": cue of " + item, house.cue(voice, item), cue);
        }
        for (int item : new int[] {-1, items.length}) {
            notThere(what + ": kind of " + item, () -> house.itemKind(voice, item));
            notThere(what + ": bar of " + item, () -> house.itemBar(voice, item));
            notThere(what + ": bars of " + item, () -> house.itemBars(voice, item));
            notThere(what + ": cue of " + item, () -> house.cue(voice, item));
            notThere(what + ": width of " + item, () -> house.itemWidth(voice, item));
        }
    }

    void sameLines(ScoreHouse house, String what, int badness, int... firstItems) {
        same(what + ": lines", house.lines(0), firstItems.length);
        for (int line = 0; line < Math.min(house.lines(0), firstItems.length); line++) {
            same(what + ": first item of " + line, house.firstItem(0, line), firstItems[line]);
        }
        same(what + ": badness", house.badness(0), badness);
        notThere(what + ": the line behind", () -> house.firstItem(0, firstItems.length));
        notThere(what + ": the line -1", () -> house.firstItem(0, -1));
    }

    void samePages(ScoreHouse house, String what, int... lines) {
        same(what + ": pages", house.pages(0), lines.length);
        for (int page = 0; page < Math.min(house.pages(0), lines.length); page++) {
            same(what + ": lines of page " + page, house.pageLines(0, page), lines[page]);
        }
        notThere(what + ": the page behind", () -> house.pageLines(0, lines.length));
        notThere(what + ": the page -1", () -> house.pageLines(0, -1));
    }

    /** Each turn is told by the bar behind which it is. */
    void sameTurns(ScoreHouse house, String what, int... bars) {
        same(what + ": turns", house.pageTurns(0), bars.length);
        for (int turn = 0; turn < Math.min(house.pageTurns(0), bars.length); turn++) {
            same(what + ": bar of turn " + turn, house.turnBar(0, turn), bars[turn]);
        }
        for (int turn : new int[] {-1, bars.length}) {
            notThere(what + ": bar of turn " + turn, () -> house.turnBar(0, turn));
            notThere(what + ": time of turn " + turn, () -> house.turnTime(0, turn));
            notThere(what + ": rest at turn " + turn, () -> house.turnRest(0, turn));
        }
    }

    /** The pages on the left and on the right of the front, and of the back. */
    void sameSheet(ScoreHouse house, int sheet, int... pages) {
        same("front left of " + sheet, house.sheetPage(0, sheet, true, true), pages[0]);
        same("front right of " + sheet, house.sheetPage(0, sheet, true, false), pages[1]);
        same("back left of " + sheet, house.sheetPage(0, sheet, false, true), pages[2]);
        same("back right of " + sheet, house.sheetPage(0, sheet, false, false), pages[3]);
    }
}
