/** Promises 23 to 35. */
public final class PlayingTest {
    private static final ScoreCheck CHECK = new ScoreCheck("PlayingTest");
    private static final int PLAIN = ScoreHouse.PLAIN, TRIPLET = ScoreHouse.TRIPLET;

    public static void main(String[] args) {
        promise23AddRepeat();
        promise24DropRepeat();
        promises25And26Places();
        promises27And28Starts();
        promise29TimeByEvents();
        promise30Sounds();
        tiesOverRepeats();
        tiesOverOtherBars();
        promise31OrderOfVoices();
        promises32And33Times();
        promise34SoundPitch();
        promise35Loudness();
        CHECK.end();
    }

    private static void promise23AddRepeat() {
        ScoreHouse house = Scores.withBars(8, 4, 4);
        CHECK.same("one", house.addRepeat(2, 4, 2), 1);
        CHECK.same("of one bar", house.addRepeat(5, 5, 0), 2);
        CHECK.notThere("from 8", () -> house.addRepeat(8, 8, 0));
        CHECK.notThere("to 8, from behind too", () -> house.addRepeat(7, 8, 9));
        CHECK.notThere("from -1", () -> house.addRepeat(-1, 1, 0));
        CHECK.notThere("to -1", () -> house.addRepeat(0, -1, 0));
        CHECK.badArgument("backwards", () -> house.addRepeat(7, 6, 0));
        CHECK.badArgument("as many endings as bars", () -> house.addRepeat(0, 1, 2));
        CHECK.badArgument("endings -1", () -> house.addRepeat(0, 1, -1));
        CHECK.badArgument("endings of one bar, in another too", () -> house.addRepeat(2, 2, 1));
        CHECK.badState("its last bar", () -> house.addRepeat(0, 2, 0));
        CHECK.badState("its first bar", () -> house.addRepeat(4, 4, 0));
        CHECK.badState("within", () -> house.addRepeat(3, 3, 0));
        CHECK.badState("around", () -> house.addRepeat(1, 6, 0));
        CHECK.badState("the same", () -> house.addRepeat(5, 5, 0));
        CHECK.same("just ahead", house.addRepeat(0, 1, 1), 3);
        CHECK.same("just behind", house.addRepeat(6, 7, 0), 4);
    }

    private static void promise24DropRepeat() {
        ScoreHouse house = Scores.withBars(6, 4, 4);
        house.addRepeat(1, 3, 0);
        house.addRepeat(4, 4, 0);
        CHECK.notThere("bar 6", () -> house.dropRepeat(6));
        CHECK.notThere("bar -1", () -> house.dropRepeat(-1));
        CHECK.badState("none there", () -> house.dropRepeat(0));
        CHECK.badState("within one", () -> house.dropRepeat(2));
        CHECK.badState("where one ends", () -> house.dropRepeat(3));
        CHECK.same("last bar", house.dropRepeat(1), 3);
        CHECK.badState("no more there", () -> house.dropRepeat(1));
        CHECK.same("the other one is still played", house.places(), 7);
        CHECK.same("its bars are free", house.addRepeat(0, 3, 0), 2);
        CHECK.same("last bar of the other", house.dropRepeat(4), 4);
    }

    private static void promises25And26Places() {
        ScoreHouse house = new ScoreHouse();
        CHECK.samePlaces(house, "no bars");
        house = Scores.withBars(6, 4, 4);
        CHECK.samePlaces(house, "no repeats", 0, 1, 2, 3, 4, 5);
        house.addRepeat(1, 3, 0);
        CHECK.samePlaces(house, "no endings", 0, 1, 2, 3, 1, 2, 3, 4, 5);
        house.dropRepeat(1);
        house.addRepeat(1, 3, 1);
        CHECK.samePlaces(house, "an ending", 0, 1, 2, 3, 1, 2, 4, 5);
        house.dropRepeat(1);
        house.addRepeat(1, 3, 2);
        house.addRepeat(4, 5, 1);
        house.addRepeat(0, 0, 0);
        CHECK.samePlaces(house, "three repeats", 0, 0, 1, 2, 3, 1, 4, 5, 4);
        ScoreHouse full = Scores.withBars(24, 9, 2);
        full.addRepeat(0, 23, 0);
        CHECK.same("most places", full.places(), 48);
        CHECK.same("last of most places", full.barAt(47), 23);
    }

    private static void promises27And28Starts() {
        ScoreHouse house = new ScoreHouse();
        CHECK.same("time without bars", house.playingTime(), 0);
        CHECK.notThere("start without bars", () -> house.startOf(0));
        ScoreHouse other = Scores.withBars(3, 4, 4);
        other.setTempo(1, 130);
        other.addRepeat(1, 2, 1);
        int[] starts = {0, 2000, 3846, 5692};
        for (int place = 0; place < starts.length; place++) {
            CHECK.same("start of " + place, other.startOf(place), starts[place]);
        }
        CHECK.same("time, each place rounded down", other.playingTime(), 7538);
        CHECK.notThere("start of 4", () -> other.startOf(4));
        CHECK.notThere("start of -1", () -> other.startOf(-1));
        other.setMetre(2, 3, 8);
        CHECK.same("time with a shorter bar", other.playingTime(), 2000 + 1846 + 692 + 1846);
    }

    private static void promise29TimeByEvents() {
        ScoreHouse house = Scores.withBars(2, 4, 4);
        house.setTempo(1, 130);
        CHECK.same("empty", house.timeByEvents(1), 3846);
        house.insert(1, 1, 0, 60, 3, PLAIN);
        house.insert(1, 1, 0, 0, 4, PLAIN);
        CHECK.same("18 ticks together", house.timeByEvents(1), 2346);
        house.addRepeat(0, 1, 0);
        CHECK.same("twice", house.timeByEvents(1), 4692);
        CHECK.same("another voice", house.timeByEvents(0), 7692);
        CHECK.badArgument("voice 4", () -> house.timeByEvents(4));
        CHECK.badArgument("voice -1", () -> house.timeByEvents(-1));
        CHECK.same("without bars", new ScoreHouse().timeByEvents(0), 0);
    }

    private static void promise30Sounds() {
        ScoreHouse house = Scores.withBars(1, 4, 4);
        CHECK.same("none", house.sounds(), 0);
        for (int index = 0; index < 4; index++) {
            house.insert(0, 0, index, 60, 2, PLAIN);
        }
        CHECK.sameSounds(house, "not tied", 0, 500, 500, 500, 1000, 500, 1500, 500);
        house.setTie(0, 0, 0, true);
        house.setTie(0, 0, 1, true);
        CHECK.sameSounds(house, "three tied", 0, 1500, 1500, 500);
        house.setPitch(0, 0, 1, 61);
        CHECK.sameSounds(house, "of another pitch", 0, 500, 500, 500, 1000, 500, 1500, 500);
        house.setPitch(0, 0, 1, 0);
        CHECK.sameSounds(house, "a rest between", 0, 500, 1000, 500, 1500, 500);
        house.remove(0, 0, 1);
        CHECK.sameSounds(house, "right behind then", 0, 1000, 1000, 500);
        house.setTie(0, 0, 2, true);
        CHECK.sameSounds(house, "none behind", 0, 1000, 1000, 500);
    }

    private static void tiesOverRepeats() {
        ScoreHouse house = Scores.withBars(4, 2, 4);
        for (int bar = 0; bar < 4; bar++) {
            house.insert(0, bar, 0, 60, 1, PLAIN);
            house.setTie(0, bar, 0, true);
        }
        CHECK.sameSounds(house, "all tied", 0, 4000);
        house.addRepeat(1, 2, 0);
        CHECK.sameSounds(house, "the bar behind is not played right behind", 0, 3000, 3000, 3000);
        house.dropRepeat(1);
        house.addRepeat(1, 2, 1);
        CHECK.sameSounds(house, "an ending is left out", 0, 3000, 3000, 1000, 4000, 1000);
        house.dropRepeat(1);
        house.addRepeat(3, 3, 0);
        CHECK.sameSounds(house, "a bar is not tied to itself", 0, 4000, 4000, 1000);
    }

    private static void tiesOverOtherBars() {
        ScoreHouse house = Scores.withBars(3, 4, 4);
        house.insert(0, 0, 0, 60, 0, PLAIN);
        house.setTie(0, 0, 0, true);
        house.insert(0, 2, 0, 60, 0, PLAIN);
        CHECK.sameSounds(house, "an empty bar between", 0, 2000, 4000, 2000);
        house.insert(0, 1, 0, 60, 1, PLAIN);
        CHECK.sameSounds(house, "tied to what is there", 0, 3000, 4000, 2000);
        house.setTie(0, 1, 0, true);
        // The event behind is told by bars alone; the document asks nothing of what is left in a bar.
        CHECK.sameSounds(house, "out of a bar that is not full", 0, 6000);
        house.insert(0, 1, 1, 0, 1, PLAIN);
        CHECK.sameSounds(house, "a rest behind", 0, 3000, 4000, 2000);
    }

    private static void promise31OrderOfVoices() {
        ScoreHouse house = Scores.withBars(1, 2, 4);
        house.insert(3, 0, 0, 63, 2, PLAIN);
        house.insert(3, 0, 1, 73, 2, PLAIN);
        house.insert(1, 0, 0, 61, 3, PLAIN);
        house.insert(1, 0, 1, 71, 3, PLAIN);
        house.insert(1, 0, 2, 81, 2, PLAIN);
        house.insert(0, 0, 0, 0, 3, PLAIN);
        house.insert(0, 0, 1, 60, 2, PLAIN);
        int[] voices = {1, 3, 0, 1, 1, 3};
        int[] pitches = {61, 63, 60, 71, 81, 73};
        CHECK.same("sounds", house.sounds(), voices.length);
        for (int sound = 0; sound < voices.length; sound++) {
            CHECK.same("voice of " + sound, house.soundVoice(sound), voices[sound]);
            CHECK.same("pitch of " + sound, house.soundPitch(sound), pitches[sound]);
        }
        house.addRepeat(0, 0, 0);
        CHECK.same("voice of the first one again", house.soundVoice(6), 1);
        CHECK.notThere("voice of sound 12", () -> house.soundVoice(12));
        CHECK.notThere("voice of sound -1", () -> house.soundVoice(-1));
    }

    private static void promises32And33Times() {
        ScoreHouse house = Scores.withBars(2, 2, 4);
        house.setTempo(0, 130);
        house.setTempo(1, 70);
        house.insert(2, 0, 0, 0, 5, TRIPLET);
        house.insert(2, 0, 1, 60, 5, TRIPLET);
        house.insert(2, 0, 2, 60, 5, TRIPLET);
        house.insert(2, 0, 3, 60, 3, PLAIN);
        house.insert(2, 1, 0, 60, 3, TRIPLET);
        house.setTie(2, 0, 2, true);
        house.setTie(2, 0, 3, true);
        // 2, 4, 6 and 18 ticks at 130 take 38, 76, 115 and 346; the bar 923; 8 ticks at 70 take 285.
        CHECK.sameSounds(house, "rounded down by ticks of the place", 38, 38, 76, 923 + 285 - 76);
        CHECK.notThere("start of sound 2", () -> house.soundStart(2));
        CHECK.notThere("start of sound -1", () -> house.soundStart(-1));
        CHECK.notThere("time of sound 2", () -> house.soundTime(2));
        CHECK.notThere("time of sound -1", () -> house.soundTime(-1));
        house.addRepeat(1, 1, 0);
        CHECK.same("once more", house.soundStart(2), 923 + 1714);
        CHECK.same("without what was ahead", house.soundTime(2), 285);
    }

    private static void promise34SoundPitch() {
        ScoreHouse house = Scores.withBars(1, 4, 4);
        house.insert(0, 0, 0, 60, 0, PLAIN);
        house.transpose(0, -7);
        CHECK.same("not transposed", house.soundPitch(0), 60);
        house.setPitch(0, 0, 0, 127);
        CHECK.same("as it is now", house.soundPitch(0), 127);
        CHECK.notThere("pitch of sound 1", () -> house.soundPitch(1));
        CHECK.notThere("pitch of sound -1", () -> house.soundPitch(-1));
    }

    private static void promise35Loudness() {
        ScoreHouse house = Scores.withBars(3, 2, 4);
        for (int bar = 0; bar < 3; bar++) {
            house.insert(0, bar, 0, 60, 2, PLAIN);
            house.insert(0, bar, 1, 61, 2, PLAIN);
        }
        house.insert(1, 0, 0, 40, 1, PLAIN);
        CHECK.same("2 without a mark", house.loudness(0), 2);
        house.setMark(0, 0, 1, 5);
        house.setMark(0, 2, 0, 0);
        house.addRepeat(1, 2, 0);
        int[] due = {2, 2, 5, 5, 5, 0, 0, 5, 5, 0, 0};
        CHECK.same("sounds", house.sounds(), due.length);
        for (int sound = 0; sound < due.length; sound++) {
            CHECK.same("loudness of " + sound, house.loudness(sound), due[sound]);
        }
        house.setMark(0, 1, 1, 3);
        CHECK.same("by bars, not by playing", house.loudness(7), 5);
        CHECK.same("of the mark itself", house.loudness(8), 3);
        house.setPitch(0, 1, 1, 60);
        house.setTie(0, 1, 0, true);
        CHECK.same("a mark behind the first note does not matter", house.loudness(3), 5);
        house.setPitch(0, 0, 1, 0);
        CHECK.same("the mark of a rest", house.loudness(2), 5);
        house.setMark(0, 0, 1, ScoreHouse.NONE);
        CHECK.same("taken away", house.loudness(2), 2);
        CHECK.notThere("loudness of sound -1", () -> house.loudness(-1));
        CHECK.notThere("loudness behind", () -> house.loudness(house.sounds()));
    }
}
