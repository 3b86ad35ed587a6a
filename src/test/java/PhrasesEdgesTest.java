/** The boundary cases of promises 19 to 22, a method for each sentence of the document that names one. */
public final class PhrasesEdgesTest {
    private static final Check CHECK = new Check("PhrasesEdgesTest");
    private static final int PLAIN = ScoreHouse.PLAIN;

    public static void main(String[] args) {
        thereAreNoneAtFirst();
        atMost20AreEverMade();
        thoseThatAreGoneWereMadeToo();
        itGoesToALaterEvent();
        itGoesFromTheFirstEventToTheLastOne();
        itIsOfAVoice();
        itIsGoneWithItsFirstEvent();
        itIsGoneWithItsLastEvent();
        whatLiesInBetweenDoesNotMatter();
        severalAreGoneWithOneEvent();
        anEventPutInThereIsAnotherOne();
        dropPhraseTellsWhetherItWasThere();
        turnsAreAllowedBehindEachBar();
        turnsAreAllowedForEachVoice();
        CHECK.end();
    }

    /** Bars of 2 quarters, each with two quarter notes of the voices 0 and 3. */
    private static ScoreHouse withNotes(int bars) {
        ScoreHouse house = new ScoreHouse();
        for (int bar = 0; bar < bars; bar++) {
            house.addBar(2, 4);
            for (int voice = 0; voice < 4; voice += 3) {
                house.insert(voice, bar, 0, 60, 2, PLAIN);
                house.insert(voice, bar, 1, 62, 2, PLAIN);
            }
        }
        return house;
    }

    private static void thereAreNoneAtFirst() {
        ScoreHouse house = withNotes(1);
        CHECK.same("none", house.phrases(), 0);
        CHECK.notThere("number 0", () -> house.dropPhrase(0));
        CHECK.same("the first one", house.addPhrase(0, 0, 0, 0, 1), 0);
        CHECK.notThere("number 1", () -> house.dropPhrase(1));
        CHECK.same("one", house.phrases(), 1);
    }

    /** "Phrases are numbered from 0; at most 20 are ever made." */
    private static void atMost20AreEverMade() {
        ScoreHouse house = withNotes(2);
        for (int phrase = 0; phrase < 20; phrase++) {
            int next = phrase;
            CHECK.notThere("not made yet", () -> house.dropPhrase(next));
            CHECK.same("number", house.addPhrase(phrase % 2 * 3, 0, phrase % 2, 1, 1), phrase);
            CHECK.same("there are", house.phrases(), phrase + 1);
        }
        CHECK.badState("a 21st", () -> house.addPhrase(0, 0, 0, 1, 1));
        CHECK.badState("a 21st of another voice", () -> house.addPhrase(3, 0, 0, 0, 1));
        CHECK.same("20 stay", house.phrases(), 20);
        CHECK.notThere("number 20", () -> house.dropPhrase(20));
        CHECK.yes("number 19", house.dropPhrase(19));
        CHECK.yes("number 0", house.dropPhrase(0));
    }

    private static void thoseThatAreGoneWereMadeToo() {
        ScoreHouse house = withNotes(2);
        for (int phrase = 0; phrase < 19; phrase++) {
            house.addPhrase(0, 0, 0, 1, 1);
            CHECK.yes("dropped at once", house.dropPhrase(phrase));
        }
        CHECK.same("none is there", house.phrases(), 0);
        CHECK.badState("a refused one is not made", () -> house.addPhrase(0, 0, 0, 0, 0));
        CHECK.same("the 20th", house.addPhrase(0, 0, 0, 1, 1), 19);
        house.remove(0, 1, 1);
        CHECK.same("gone with its event", house.phrases(), 0);
        CHECK.badState("a 21st", () -> house.addPhrase(0, 0, 0, 1, 0));
    }

    /** "if the last event is not later than the first one": the event itself, the next one, the one ahead. */
    private static void itGoesToALaterEvent() {
        ScoreHouse house = withNotes(3);
        CHECK.badState("to itself", () -> house.addPhrase(0, 1, 0, 1, 0));
        CHECK.badState("to itself, the last one", () -> house.addPhrase(0, 2, 1, 2, 1));
        CHECK.same("to the next one", house.addPhrase(0, 1, 0, 1, 1), 0);
        CHECK.badState("to the one ahead", () -> house.addPhrase(0, 1, 1, 1, 0));
        CHECK.same("to the next bar", house.addPhrase(0, 1, 1, 2, 0), 1);
        CHECK.badState("to the bar ahead", () -> house.addPhrase(0, 1, 0, 0, 1));
        CHECK.badState("to the bar ahead, the same number", () -> house.addPhrase(0, 2, 1, 1, 1));
        CHECK.same("to a later bar, the same number", house.addPhrase(0, 1, 1, 2, 1), 2);
        CHECK.same("two of the same events", house.addPhrase(0, 1, 0, 1, 1), 3);
        CHECK.same("four", house.phrases(), 4);
        CHECK.notThere("from event 2", () -> house.addPhrase(0, 0, 2, 1, 0));
        CHECK.notThere("from event -1", () -> house.addPhrase(0, 0, -1, 1, 0));
        CHECK.notThere("to event 2", () -> house.addPhrase(0, 0, 0, 1, 2));
        CHECK.notThere("to event -1", () -> house.addPhrase(0, 0, 0, 1, -1));
        CHECK.notThere("from bar 3", () -> house.addPhrase(0, 3, 0, 2, 0));
        CHECK.notThere("to bar 3", () -> house.addPhrase(0, 0, 0, 3, 0));
        CHECK.notThere("from bar -1", () -> house.addPhrase(0, -1, 0, 2, 0));
        CHECK.notThere("to bar -1", () -> house.addPhrase(0, 0, 0, -1, 0));
        CHECK.same("four still", house.phrases(), 4);
    }

    private static void itGoesFromTheFirstEventToTheLastOne() {
        ScoreHouse house = new ScoreHouse();
        for (int bar = 0; bar < 24; bar++) {
            house.addBar(4, 4);
        }
        for (int index = 0; index < 16; index++) {
            house.insert(2, 0, index, 60, 4, PLAIN);
            house.insert(2, 23, index, 0, 4, PLAIN);
        }
        CHECK.same("over all", house.addPhrase(2, 0, 0, 23, 15), 0);
        CHECK.same("of the last two", house.addPhrase(2, 23, 14, 23, 15), 1);
        CHECK.notThere("to event 16", () -> house.addPhrase(2, 0, 0, 23, 16));
        CHECK.notThere("to bar 24", () -> house.addPhrase(2, 0, 0, 24, 0));
        CHECK.notThere("to an empty bar", () -> house.addPhrase(2, 0, 0, 22, 0));
        CHECK.notThere("from an empty bar", () -> house.addPhrase(2, 1, 0, 23, 0));
        house.remove(2, 23, 15);
        CHECK.same("both are gone", house.phrases(), 0);
    }

    private static void itIsOfAVoice() {
        ScoreHouse house = withNotes(2);
        CHECK.notThere("a voice without events", () -> house.addPhrase(1, 0, 0, 1, 0));
        CHECK.badArgument("voice 4", () -> house.addPhrase(4, 0, 0, 1, 0));
        CHECK.badArgument("voice -1", () -> house.addPhrase(-1, 0, 0, 1, 0));
        house.addPhrase(0, 0, 0, 1, 1);
        house.addPhrase(3, 0, 0, 1, 1);
        house.remove(3, 0, 0);
        CHECK.no("that of voice 3 is gone", house.dropPhrase(1));
        CHECK.yes("that of voice 0 is not", house.dropPhrase(0));
    }

    /** "When one of both is taken away, the phrase is gone" */
    private static void itIsGoneWithItsFirstEvent() {
        ScoreHouse house = withNotes(2);
        house.addPhrase(0, 0, 1, 1, 0);
        house.remove(0, 0, 0);
        CHECK.same("the event ahead of its first one", house.phrases(), 1);
        house.remove(0, 0, 0);
        CHECK.same("its first event", house.phrases(), 0);
        CHECK.no("gone", house.dropPhrase(0));
    }

    private static void itIsGoneWithItsLastEvent() {
        ScoreHouse house = withNotes(2);
        house.addPhrase(0, 0, 1, 1, 0);
        house.remove(0, 1, 1);
        CHECK.same("the event behind its last one", house.phrases(), 1);
        house.remove(0, 1, 0);
        CHECK.same("its last event", house.phrases(), 0);
        CHECK.no("gone", house.dropPhrase(0));
    }

    /** "what lies in between does not matter": there may be nothing left of it. */
    private static void whatLiesInBetweenDoesNotMatter() {
        ScoreHouse house = withNotes(3);
        house.addPhrase(0, 0, 0, 2, 1);
        house.remove(0, 0, 1);
        house.remove(0, 1, 1);
        house.remove(0, 1, 0);
        house.remove(0, 2, 0);
        CHECK.same("an empty bar in between", house.phrases(), 1);
        house.setPitch(0, 0, 0, 0);
        house.setPitch(0, 2, 0, 0);
        CHECK.same("events that become rests", house.phrases(), 1);
        house.insert(0, 2, 0, 60, 2, PLAIN);
        house.remove(0, 2, 0);
        CHECK.same("one ahead of its last event, in its bar", house.phrases(), 1);
        house.remove(0, 2, 0);
        CHECK.same("its last event", house.phrases(), 0);
    }

    private static void severalAreGoneWithOneEvent() {
        ScoreHouse house = withNotes(2);
        for (int phrase = 0; phrase < 19; phrase++) {
            house.addPhrase(0, 0, phrase % 2, 1, phrase % 2);
        }
        house.addPhrase(0, 0, 0, 0, 1);
        CHECK.same("20", house.phrases(), 20);
        house.remove(0, 0, 1);
        CHECK.same("9 began there, and one ended there", house.phrases(), 10);
        house.remove(0, 1, 0);
        CHECK.same("all others ended there", house.phrases(), 0);
        for (int phrase = 0; phrase < 20; phrase++) {
            CHECK.no("gone", house.dropPhrase(phrase));
        }
    }

    private static void anEventPutInThereIsAnotherOne() {
        ScoreHouse house = withNotes(2);
        house.addPhrase(0, 0, 0, 1, 0);
        house.remove(0, 0, 0);
        house.insert(0, 0, 0, 60, 2, PLAIN);
        CHECK.same("gone for ever", house.phrases(), 0);
        CHECK.no("gone for ever", house.dropPhrase(0));
        CHECK.same("made anew", house.addPhrase(0, 0, 0, 1, 0), 1);
        CHECK.same("one", house.phrases(), 1);
    }

    /** "Returns whether it was there" */
    private static void dropPhraseTellsWhetherItWasThere() {
        ScoreHouse house = withNotes(2);
        house.addPhrase(0, 0, 0, 1, 0);
        house.addPhrase(0, 0, 0, 1, 0);
        CHECK.notThere("number -1", () -> house.dropPhrase(-1));
        CHECK.notThere("number 2", () -> house.dropPhrase(2));
        CHECK.same("two stay", house.phrases(), 2);
        CHECK.yes("it was", house.dropPhrase(0));
        CHECK.no("it was not", house.dropPhrase(0));
        CHECK.same("one stays", house.phrases(), 1);
        CHECK.yes("the other one was", house.dropPhrase(1));
        CHECK.same("none stays", house.phrases(), 0);
        CHECK.notThere("still no number 2", () -> house.dropPhrase(2));
    }

    private static void turnsAreAllowedBehindEachBar() {
        ScoreHouse house = new ScoreHouse();
        for (int bar = 0; bar < 24; bar++) {
            house.addBar(4, 4);
        }
        for (int bar : new int[] {0, 23}) {
            CHECK.no("not at first", house.allowTurn(0, bar, false));
            CHECK.no("not when told so", house.allowTurn(0, bar, true));
            CHECK.yes("allowed", house.allowTurn(0, bar, true));
            CHECK.yes("still allowed", house.allowTurn(0, bar, false));
            CHECK.no("not any more", house.allowTurn(0, bar, false));
        }
        house.allowTurn(0, 10, true);
        CHECK.no("not behind the bar ahead", house.allowTurn(0, 9, false));
        CHECK.no("not behind the bar behind", house.allowTurn(0, 11, false));
        CHECK.notThere("bar 24", () -> house.allowTurn(0, 24, true));
        CHECK.notThere("bar -1", () -> house.allowTurn(0, -1, true));
        CHECK.yes("it stays allowed", house.allowTurn(0, 10, true));
    }

    private static void turnsAreAllowedForEachVoice() {
        ScoreHouse house = withNotes(1);
        for (int voice = 0; voice < 4; voice++) {
            CHECK.no("not by what was told of others", house.allowTurn(voice, 0, true));
        }
        house.allowTurn(2, 0, false);
        CHECK.yes("voice 1", house.allowTurn(1, 0, true));
        CHECK.no("voice 2", house.allowTurn(2, 0, true));
        CHECK.yes("voice 3", house.allowTurn(3, 0, true));
        CHECK.badArgument("voice 4", () -> house.allowTurn(4, 0, true));
        CHECK.badArgument("voice -1", () -> house.allowTurn(-1, 0, true));
    }
}
