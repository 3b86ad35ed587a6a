/** Promises 19 to 22. */
public final class PhrasesTest {
    private static final Check CHECK = new Check("PhrasesTest");
    private static final int PLAIN = ScoreHouse.PLAIN;

    public static void main(String[] args) {
        promise19AddPhrase();
        promise20DropPhrase();
        promise21Phrases();
        promise22AllowTurn();
        phraseStaysWithItsEvents();
        CHECK.end();
    }

    /** Bars of 2 quarters, each with two quarter notes of the voice 0. */
    private static ScoreHouse withNotes(int bars) {
        ScoreHouse house = new ScoreHouse();
        for (int bar = 0; bar < bars; bar++) {
            house.addBar(2, 4);
            house.insert(0, bar, 0, 60, 2, PLAIN);
            house.insert(0, bar, 1, 62, 2, PLAIN);
        }
        return house;
    }

    private static void promise19AddPhrase() {
        ScoreHouse house = withNotes(3);
        CHECK.same("in a bar", house.addPhrase(0, 0, 0, 0, 1), 0);
        CHECK.same("over bars", house.addPhrase(0, 0, 1, 2, 0), 1);
        house.setPitch(0, 1, 0, 0);
        CHECK.same("from a rest", house.addPhrase(0, 1, 0, 1, 1), 2);
        CHECK.badArgument("voice 4", () -> house.addPhrase(4, 9, 0, 0, 0));
        CHECK.badArgument("voice -1", () -> house.addPhrase(-1, 0, 0, 1, 0));
        CHECK.notThere("first bar 3", () -> house.addPhrase(0, 3, 0, 2, 0));
        CHECK.notThere("last bar 3", () -> house.addPhrase(0, 0, 0, 3, 0));
        CHECK.notThere("first event 2", () -> house.addPhrase(0, 0, 2, 1, 0));
        CHECK.notThere("last event 2", () -> house.addPhrase(0, 0, 0, 1, 2));
        CHECK.notThere("last event -1", () -> house.addPhrase(0, 0, 0, 1, -1));
        CHECK.notThere("events of another voice", () -> house.addPhrase(1, 0, 0, 1, 0));
        CHECK.badState("one event", () -> house.addPhrase(0, 1, 1, 1, 1));
        CHECK.badState("backwards in a bar", () -> house.addPhrase(0, 1, 1, 1, 0));
        CHECK.badState("backwards over bars", () -> house.addPhrase(0, 2, 0, 1, 1));
        for (int phrase = 3; phrase < 20; phrase++) {
            CHECK.same("the same phrase once more", house.addPhrase(0, 0, 0, 0, 1), phrase);
        }
        CHECK.badState("21st", () -> house.addPhrase(0, 0, 0, 0, 1));
        CHECK.notThere("21st without an event", () -> house.addPhrase(0, 0, 0, 0, 2));
        house.dropPhrase(0);
        house.remove(0, 2, 0);
        CHECK.badState("20 were made, though some are gone", () -> house.addPhrase(0, 0, 0, 0, 1));
    }

    private static void promise20DropPhrase() {
        ScoreHouse house = withNotes(2);
        CHECK.notThere("none was made", () -> house.dropPhrase(0));
        house.addPhrase(0, 0, 0, 0, 1);
        house.addPhrase(0, 0, 1, 1, 0);
        CHECK.notThere("phrase -1", () -> house.dropPhrase(-1));
        CHECK.notThere("phrase 2", () -> house.dropPhrase(2));
        CHECK.yes("was there", house.dropPhrase(0));
        CHECK.no("is gone", house.dropPhrase(0));
        house.remove(0, 1, 0);
        CHECK.no("is gone with its event", house.dropPhrase(1));
        CHECK.same("numbers are not used again", house.addPhrase(0, 0, 0, 0, 1), 2);
    }

    private static void promise21Phrases() {
        ScoreHouse house = withNotes(2);
        CHECK.same("none", house.phrases(), 0);
        house.addPhrase(0, 0, 0, 1, 1);
        house.addPhrase(0, 0, 1, 1, 0);
        house.addPhrase(0, 0, 0, 1, 0);
        CHECK.same("three", house.phrases(), 3);
        house.dropPhrase(0);
        CHECK.same("two", house.phrases(), 2);
        house.dropPhrase(0);
        CHECK.same("still two", house.phrases(), 2);
        house.remove(0, 0, 1);
        CHECK.same("one began with the event", house.phrases(), 1);
        house.remove(0, 1, 1);
        CHECK.same("the one is not at this event", house.phrases(), 1);
        house.remove(0, 1, 0);
        CHECK.same("it ended with the event", house.phrases(), 0);
    }

    private static void promise22AllowTurn() {
        ScoreHouse house = withNotes(2);
        CHECK.no("not at first", house.allowTurn(0, 0, true));
        CHECK.yes("allowed", house.allowTurn(0, 0, true));
        CHECK.yes("allowed", house.allowTurn(0, 0, false));
        CHECK.no("not any more", house.allowTurn(0, 0, false));
        house.allowTurn(0, 1, true);
        CHECK.no("not for another voice", house.allowTurn(1, 1, false));
        CHECK.no("not behind another bar", house.allowTurn(0, 0, false));
        CHECK.badArgument("voice 4", () -> house.allowTurn(4, 7, true));
        CHECK.badArgument("voice -1", () -> house.allowTurn(-1, 0, true));
        CHECK.notThere("bar 2", () -> house.allowTurn(0, 2, true));
        CHECK.notThere("bar -1", () -> house.allowTurn(0, -1, false));
    }

    private static void phraseStaysWithItsEvents() {
        ScoreHouse house = withNotes(2);
        house.setMetre(0, 4, 4);
        house.addPhrase(0, 0, 1, 1, 1);
        house.insert(0, 0, 0, 50, 3, PLAIN);
        house.insert(0, 0, 2, 50, 3, PLAIN);
        house.remove(0, 0, 1);
        house.remove(0, 0, 0);
        house.remove(0, 1, 0);
        CHECK.same("what lies between or ahead does not matter", house.phrases(), 1);
        house.remove(0, 0, 0);
        CHECK.same("still there", house.phrases(), 1);
        house.setPitch(0, 0, 0, 0);
        CHECK.same("also with a rest", house.phrases(), 1);
        house.remove(0, 0, 0);
        CHECK.same("gone with its first event", house.phrases(), 0);
    }
}
