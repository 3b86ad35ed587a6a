/**
 * "If several apply, the one that it lists first is thrown. A call that throws changes nothing." Of each method: each
 * "Throws .. if ..", the first values that are refused on both sides, and the order when several apply.
 */
public final class RefusedTest {
    private static final Check CHECK = new Check("RefusedTest");
    private static final int PLAIN = ScoreHouse.PLAIN, DOTTED = ScoreHouse.DOTTED, TRIPLET = ScoreHouse.TRIPLET;
    private static final int NONE = ScoreHouse.NONE;
    private static final int LEAST = Integer.MIN_VALUE, MOST = Integer.MAX_VALUE;
    private static final int[] NO_VOICES = {-1, 4, LEAST, MOST};
    // The score has 8 bars.
    private static final int[] NO_BARS = {-1, 8, 24, LEAST, MOST};
    private static final int[] NO_BEATS = {0, 10, -1, LEAST, MOST};
    private static final int[] NO_UNITS = {0, 1, 3, 5, 6, 7, 9, 16, -2, -4, -8, LEAST, MOST};

    /** All kinds of things are told. The voice 0 is full, 1 has rests, 2 is not right, and 3 is empty. */
    private static final Scene SCORE = new Scene(CHECK, "a score", RefusedTest::tellScore);
    private static final Scene NEW = new Scene(CHECK, "a new object", house -> { });
    private static final Scene BAR = new Scene(CHECK, "an empty bar", house -> house.addBar(4, 4));
    /** 24 bars, 20 phrases, 16 events in a bar, and a repeat of all bars. */
    private static final Scene FULL = new Scene(CHECK, "a full score", RefusedTest::tellFullScore);

    public static void main(String[] args) {
        refusedBars();
        refusedTempos();
        refusedQuestionsOfBars();
        refusedInsertArguments();
        refusedInsertStates();
        refusedInsertOrder();
        refusedEventNumbers();
        refusedSetPitch();
        refusedSetTie();
        refusedSetMark();
        refusedTranspose();
        refusedQuestionsOfEvents();
        refusedPhrases();
        refusedDropPhrase();
        refusedAllowTurn();
        refusedRepeats();
        refusedDropRepeat();
        refusedPlaces();
        refusedSounds();
        refusedPaper();
        refusedItems();
        refusedLines();
        refusedPages();
        refusedTurns();
        refusedSheets();
        CHECK.end();
    }

    private static void tellScore(ScoreHouse house) {
        for (int bar = 0; bar < 8; bar++) {
            house.addBar(4, 4);
            house.insert(0, bar, 0, 60, 1, PLAIN);
            house.insert(0, bar, 1, bar % 2 == 0 ? 60 : 0, 1, PLAIN);
            house.setTie(0, bar, 0, bar % 3 == 0);
        }
        house.insert(1, 5, 0, 40, 0, PLAIN);
        house.insert(1, 7, 0, 13, 0, PLAIN);
        house.insert(2, 1, 0, 127, 2, PLAIN);
        house.insert(2, 3, 0, 1, 3, DOTTED);
        house.insert(2, 4, 0, 50, 5, TRIPLET);
        house.setTempo(0, 100);
        house.setTempo(5, 90);
        house.setMark(0, 0, 0, 5);
        house.setMark(0, 1, 1, 0);
        house.setMark(0, 1, 0, 4);
        house.transpose(0, 5);
        house.transpose(1, -12);
        house.addPhrase(0, 0, 0, 1, 0);
        house.addPhrase(0, 1, 1, 4, 0);
        house.addPhrase(1, 5, 0, 7, 0);
        house.dropPhrase(1);
        house.allowTurn(0, 2, true);
        house.allowTurn(1, 7, true);
        house.addRepeat(1, 3, 1);
        house.addRepeat(5, 5, 0);
        house.setPaper(50, 2, 1000);
    }

    private static void tellFullScore(ScoreHouse house) {
        for (int bar = 0; bar < 24; bar++) {
            house.addBar(9, 2);
        }
        for (int index = 0; index < 16; index++) {
            house.insert(0, 0, index, 60 + index, 3, PLAIN);
        }
        for (int phrase = 0; phrase < 20; phrase++) {
            house.addPhrase(0, 0, 0, 0, 1);
        }
        house.dropPhrase(19);
        house.addRepeat(0, 23, 23);
    }

    // ---- bars

    private static void refusedBars() {
        for (int beats : NO_BEATS) {
            NEW.badArgument("addBar of beats " + beats, house -> house.addBar(beats, 4));
            SCORE.badArgument("addBar of beats " + beats, house -> house.addBar(beats, 4));
            FULL.badArgument("addBar of beats " + beats + ", a 25th", house -> house.addBar(beats, 4));
            SCORE.badArgument("setMetre of beats " + beats, house -> house.setMetre(0, beats, 4));
            SCORE.notThere("setMetre of beats " + beats + ", no bar", house -> house.setMetre(8, beats, 4));
        }
        for (int unit : NO_UNITS) {
            NEW.badArgument("addBar of unit " + unit, house -> house.addBar(4, unit));
            FULL.badArgument("addBar of unit " + unit + ", a 25th", house -> house.addBar(4, unit));
            SCORE.badArgument("setMetre of unit " + unit, house -> house.setMetre(7, 4, unit));
            // 1 of anything is less than what is there.
            SCORE.badArgument("setMetre of unit " + unit + ", too short", house -> house.setMetre(7, 1, unit));
            SCORE.notThere("setMetre of unit " + unit + ", no bar", house -> house.setMetre(-1, 4, unit));
        }
        FULL.badState("a 25th bar", house -> house.addBar(1, 8));
        FULL.badState("a 25th bar, the longest", house -> house.addBar(9, 2));
        for (int bar : NO_BARS) {
            SCORE.notThere("setMetre of bar " + bar, house -> house.setMetre(bar, 3, 4));
        }
        NEW.notThere("setMetre of bar 0", house -> house.setMetre(0, 3, 4));
        FULL.notThere("setMetre of bar 24", house -> house.setMetre(24, 9, 2));
        SCORE.badState("setMetre, too short by an eighth", house -> house.setMetre(0, 7, 8));
        SCORE.badState("setMetre, much too short", house -> house.setMetre(7, 1, 8));
        FULL.badState("setMetre, too short for 16 events", house -> house.setMetre(0, 3, 2));
    }

    private static void refusedTempos() {
        for (int tempo : new int[] {29, 241, -2, 0, 1, LEAST, MOST}) {
            SCORE.badArgument("setTempo " + tempo, house -> house.setTempo(0, tempo));
            SCORE.badArgument("setTempo " + tempo, house -> house.setTempo(7, tempo));
            SCORE.notThere("setTempo " + tempo + ", no bar", house -> house.setTempo(8, tempo));
        }
        for (int bar : NO_BARS) {
            SCORE.notThere("setTempo of bar " + bar, house -> house.setTempo(bar, 100));
            SCORE.notThere("setTempo of bar " + bar, house -> house.setTempo(bar, NONE));
        }
        NEW.notThere("setTempo of bar 0", house -> house.setTempo(0, 100));
    }

    private static void refusedQuestionsOfBars() {
        for (int bar : NO_BARS) {
            SCORE.notThere("length of bar " + bar, house -> house.length(bar));
            SCORE.notThere("tempo of bar " + bar, house -> house.tempo(bar));
            SCORE.notThere("time of bar " + bar, house -> house.time(bar));
        }
        for (int bar : new int[] {-1, 0, 1}) {
            NEW.notThere("length of bar " + bar, house -> house.length(bar));
            NEW.notThere("tempo of bar " + bar, house -> house.tempo(bar));
            NEW.notThere("time of bar " + bar, house -> house.time(bar));
        }
        FULL.notThere("length of bar 24", house -> house.length(24));
        FULL.notThere("tempo of bar 24", house -> house.tempo(24));
        FULL.notThere("time of bar 24", house -> house.time(24));
    }

    // ---- events

    private static void refusedInsertArguments() {
        for (int voice : NO_VOICES) {
            SCORE.badArgument("insert of voice " + voice, house -> house.insert(voice, 0, 0, 60, 5, PLAIN));
        }
        for (int pitch : new int[] {-1, 128, LEAST, MOST}) {
            SCORE.badArgument("insert of pitch " + pitch, house -> house.insert(3, 0, 0, pitch, 5, PLAIN));
        }
        for (int kind : new int[] {-1, 6, LEAST, MOST}) {
            SCORE.badArgument("insert of kind " + kind, house -> house.insert(3, 0, 0, 60, kind, PLAIN));
        }
        for (int form : new int[] {-1, 3, LEAST, MOST}) {
            SCORE.badArgument("insert of form " + form, house -> house.insert(3, 0, 0, 60, 4, form));
        }
        SCORE.badArgument("insert of kind 5 dotted", house -> house.insert(3, 0, 0, 60, 5, DOTTED));
        SCORE.badArgument("insert of a rest of kind 5 dotted", house -> house.insert(3, 0, 0, 0, 5, DOTTED));
        for (int bar : NO_BARS) {
            SCORE.notThere("insert into bar " + bar, house -> house.insert(3, bar, 0, 60, 5, PLAIN));
        }
        NEW.notThere("insert into bar 0", house -> house.insert(0, 0, 0, 60, 5, PLAIN));
        for (int index : new int[] {-1, 1, LEAST, MOST}) {
            SCORE.notThere("insert at " + index + " of none", house -> house.insert(3, 0, index, 60, 5, PLAIN));
        }
        for (int index : new int[] {-1, 2, 16, LEAST, MOST}) {
            SCORE.notThere("insert at " + index + " of one", house -> house.insert(2, 4, index, 60, 5, PLAIN));
        }
    }

    private static void refusedInsertStates() {
        for (int index : new int[] {0, 8, 15, 16}) {
            FULL.badState("insert of a 17th at " + index, house -> house.insert(0, 0, index, 60, 5, TRIPLET));
        }
        SCORE.badState("insert into a full bar", house -> house.insert(0, 0, 2, 0, 5, TRIPLET));
        SCORE.badState("insert of 96 ticks where 94 are left", house -> house.insert(2, 4, 1, 60, 0, PLAIN));
        SCORE.badState("insert of 144 ticks into an empty bar", house -> house.insert(3, 0, 0, 60, 0, DOTTED));
        SCORE.badState("insert of what is written 0", house -> house.insert(1, 0, 0, 12, 5, PLAIN));
        SCORE.badState("insert of what is written -11", house -> house.insert(1, 0, 0, 1, 5, PLAIN));
        SCORE.badState("insert of what is written 128", house -> house.insert(0, 0, 0, 123, 5, PLAIN));
    }

    private static void refusedInsertOrder() {
        SCORE.badArgument("insert, voice and bar", house -> house.insert(4, 8, 0, 60, 5, PLAIN));
        SCORE.badArgument("insert, pitch and index", house -> house.insert(0, 0, 3, 128, 5, PLAIN));
        SCORE.badArgument("insert, kind and bar", house -> house.insert(0, -1, 0, 60, 6, PLAIN));
        SCORE.badArgument("insert, form and index", house -> house.insert(0, 0, -1, 60, 4, 3));
        SCORE.badArgument("insert, kind 5 dotted and bar", house -> house.insert(0, 8, 0, 60, 5, DOTTED));
        SCORE.badArgument("insert, form and a full bar", house -> house.insert(0, 0, 0, 60, 4, -1));
        SCORE.badArgument("insert, kind 5 dotted and a full bar", house -> house.insert(0, 0, 0, 60, 5, DOTTED));
        SCORE.badArgument("insert, all of them", house -> house.insert(-1, 8, -1, -1, -1, -1));
        FULL.badArgument("insert, pitch and a 17th", house -> house.insert(0, 0, 0, -1, 5, PLAIN));
        SCORE.notThere("insert, index and a full bar", house -> house.insert(0, 0, 3, 60, 5, PLAIN));
        SCORE.notThere("insert, index and what is written 0", house -> house.insert(1, 0, 1, 12, 5, PLAIN));
        SCORE.notThere("insert, bar and what is written 0", house -> house.insert(1, 8, 0, 12, 5, PLAIN));
        FULL.notThere("insert, index and a 17th", house -> house.insert(0, 0, 17, 60, 5, TRIPLET));
        FULL.notThere("insert, index -1 and a 17th", house -> house.insert(0, 0, -1, 60, 5, TRIPLET));
    }

    private interface OfEvent {
        void tell(ScoreHouse house, int voice, int bar, int index);
    }

    /** What all calls throw that are of an event. The fine ones of the voices 0 and 2 have 2 events and 1. */
    private static void refusedEvent(String what, OfEvent call) {
        for (int voice : NO_VOICES) {
            SCORE.badArgument(what + " of voice " + voice, house -> call.tell(house, voice, 0, 0));
            SCORE.badArgument(what + " of voice " + voice + ", no bar", house -> call.tell(house, voice, 8, 0));
            SCORE.badArgument(what + " of voice " + voice + ", no event", house -> call.tell(house, voice, 0, 2));
        }
        for (int bar : NO_BARS) {
            SCORE.notThere(what + " in bar " + bar, house -> call.tell(house, 0, bar, 0));
        }
        for (int index : new int[] {-1, 2, 16, LEAST, MOST}) {
            SCORE.notThere(what + " of event " + index + " of two", house -> call.tell(house, 0, 7, index));
        }
        for (int index : new int[] {-1, 1}) {
            SCORE.notThere(what + " of event " + index + " of one", house -> call.tell(house, 2, 4, index));
        }
        for (int index : new int[] {-1, 0}) {
            SCORE.notThere(what + " of event " + index + " of none", house -> call.tell(house, 3, 0, index));
        }
        FULL.notThere(what + " of event 16 of 16", house -> call.tell(house, 0, 0, 16));
        NEW.notThere(what + " in bar 0", house -> call.tell(house, 0, 0, 0));
        NEW.badArgument(what + " of voice 4 in bar 0", house -> call.tell(house, 4, 0, 0));
    }

    private static void refusedEventNumbers() {
        refusedEvent("remove", ScoreHouse::remove);
        refusedEvent("setPitch", (house, voice, bar, index) -> house.setPitch(voice, bar, index, 70));
        refusedEvent("setPitch 0", (house, voice, bar, index) -> house.setPitch(voice, bar, index, 0));
        refusedEvent("setTie", (house, voice, bar, index) -> house.setTie(voice, bar, index, true));
        refusedEvent("setTie, no more", (house, voice, bar, index) -> house.setTie(voice, bar, index, false));
        refusedEvent("setMark", (house, voice, bar, index) -> house.setMark(voice, bar, index, 1));
        refusedEvent("setMark, none", (house, voice, bar, index) -> house.setMark(voice, bar, index, NONE));
        refusedEvent("written", ScoreHouse::written);
        refusedEvent("addPhrase, first", (house, voice, bar, index) -> house.addPhrase(voice, bar, index, 7, 1));
        refusedEvent("addPhrase, last", (house, voice, bar, index) -> house.addPhrase(voice, 0, 0, bar, index));
    }

    private static void refusedSetPitch() {
        for (int pitch : new int[] {-1, 128, LEAST, MOST}) {
            SCORE.badArgument("setPitch " + pitch, house -> house.setPitch(0, 0, 0, pitch));
            SCORE.badArgument("setPitch " + pitch + ", no bar", house -> house.setPitch(0, 8, 0, pitch));
            SCORE.badArgument("setPitch " + pitch + ", no event", house -> house.setPitch(0, 0, 2, pitch));
            SCORE.badArgument("setPitch " + pitch + ", no voice", house -> house.setPitch(4, 0, 0, pitch));
        }
        SCORE.badState("setPitch, written 128", house -> house.setPitch(0, 0, 0, 123));
        SCORE.badState("setPitch, written 132", house -> house.setPitch(0, 0, 0, 127));
        SCORE.badState("setPitch, written 0", house -> house.setPitch(1, 7, 0, 12));
        SCORE.badState("setPitch, written -11", house -> house.setPitch(1, 7, 0, 1));
        SCORE.badState("setPitch of a rest, written 128", house -> house.setPitch(0, 1, 1, 123));
        SCORE.notThere("setPitch, written 128 and no event", house -> house.setPitch(0, 0, 2, 123));
        SCORE.notThere("setPitch, written 0 and no bar", house -> house.setPitch(1, 8, 0, 12));
        SCORE.badArgument("setPitch, written 128 and no voice", house -> house.setPitch(-1, 0, 0, 127));
    }

    private static void refusedSetTie() {
        SCORE.badState("setTie of a rest", house -> house.setTie(0, 1, 1, true));
        SCORE.badState("setTie of a rest, no more", house -> house.setTie(0, 1, 1, false));
        SCORE.notThere("setTie behind a rest", house -> house.setTie(0, 1, 2, true));
    }

    private static void refusedSetMark() {
        for (int mark : new int[] {-2, 6, LEAST, MOST}) {
            SCORE.badArgument("setMark " + mark, house -> house.setMark(0, 0, 0, mark));
            SCORE.badArgument("setMark " + mark + " of a rest", house -> house.setMark(0, 1, 1, mark));
            SCORE.badArgument("setMark " + mark + ", no bar", house -> house.setMark(0, 8, 0, mark));
            SCORE.badArgument("setMark " + mark + ", no event", house -> house.setMark(0, 0, 2, mark));
            SCORE.badArgument("setMark " + mark + ", no voice", house -> house.setMark(4, 0, 0, mark));
        }
    }

    private static void refusedTranspose() {
        for (int voice : NO_VOICES) {
            SCORE.badArgument("transpose of voice " + voice, house -> house.transpose(voice, 1));
            NEW.badArgument("transpose of voice " + voice, house -> house.transpose(voice, 0));
        }
        for (int by : new int[] {-13, 13, LEAST, MOST}) {
            SCORE.badArgument("transpose by " + by, house -> house.transpose(0, by));
            SCORE.badArgument("transpose by " + by + ", not to be written", house -> house.transpose(2, by));
            NEW.badArgument("transpose by " + by, house -> house.transpose(3, by));
        }
        // It has notes of the pitches 127, 1 and 50.
        for (int by : new int[] {-12, -1, 1, 12}) {
            SCORE.badState("transpose, written 0 or 128", house -> house.transpose(2, by));
        }
    }

    private static void refusedQuestionsOfEvents() {
        for (int voice : NO_VOICES) {
            for (int bar : new int[] {0, 8, -1}) {
                String at = voice + ", " + bar;
                SCORE.badArgument("events " + at, house -> house.events(voice, bar));
                SCORE.badArgument("left " + at, house -> house.left(voice, bar));
                SCORE.badArgument("isRight " + at, house -> house.isRight(voice, bar));
            }
        }
        for (int bar : NO_BARS) {
            SCORE.notThere("events in bar " + bar, house -> house.events(0, bar));
            SCORE.notThere("left in bar " + bar, house -> house.left(3, bar));
            SCORE.notThere("isRight in bar " + bar, house -> house.isRight(0, bar));
        }
        NEW.notThere("events in bar 0", house -> house.events(0, 0));
        NEW.notThere("left in bar 0", house -> house.left(0, 0));
        NEW.notThere("isRight in bar 0", house -> house.isRight(0, 0));
    }

    // ---- phrases

    private static void refusedPhrases() {
        SCORE.badState("addPhrase to the same event", house -> house.addPhrase(0, 3, 1, 3, 1));
        SCORE.badState("addPhrase to the event ahead", house -> house.addPhrase(0, 3, 1, 3, 0));
        SCORE.badState("addPhrase to the bar ahead, a later index", house -> house.addPhrase(0, 3, 0, 2, 1));
        SCORE.badState("addPhrase from the last to the first", house -> house.addPhrase(0, 7, 1, 0, 0));
        SCORE.notThere("addPhrase back to no event", house -> house.addPhrase(0, 3, 1, 2, 2));
        SCORE.notThere("addPhrase of events of another voice", house -> house.addPhrase(1, 0, 0, 7, 0));
        SCORE.notThere("addPhrase to an event of another voice", house -> house.addPhrase(1, 5, 0, 6, 0));
        SCORE.badArgument("addPhrase of no voice, and backwards", house -> house.addPhrase(4, 3, 1, 3, 0));
        FULL.badState("a 21st phrase", house -> house.addPhrase(0, 0, 0, 0, 1));
        FULL.badState("a 21st phrase, backwards", house -> house.addPhrase(0, 0, 1, 0, 0));
        FULL.notThere("a 21st phrase from no event", house -> house.addPhrase(0, 0, 16, 0, 1));
        FULL.notThere("a 21st phrase to no event", house -> house.addPhrase(0, 0, 0, 0, 16));
        FULL.notThere("a 21st phrase to no bar", house -> house.addPhrase(0, 0, 0, 24, 0));
        FULL.badArgument("a 21st phrase of no voice", house -> house.addPhrase(-1, 0, 0, 0, 1));
    }

    private static void refusedDropPhrase() {
        for (int phrase : new int[] {-1, 0, 1, LEAST, MOST}) {
            NEW.notThere("dropPhrase " + phrase, house -> house.dropPhrase(phrase));
        }
        for (int phrase : new int[] {-1, 3, 19, 20, LEAST, MOST}) {
            SCORE.notThere("dropPhrase " + phrase + " of 3", house -> house.dropPhrase(phrase));
        }
        FULL.notThere("dropPhrase 20 of 20", house -> house.dropPhrase(20));
    }

    private static void refusedAllowTurn() {
        for (boolean isAllowed : new boolean[] {false, true}) {
            for (int voice : NO_VOICES) {
                SCORE.badArgument("allowTurn of voice " + voice, house -> house.allowTurn(voice, 2, isAllowed));
                SCORE.badArgument("allowTurn of voice " + voice + ", no bar",
                        house -> house.allowTurn(voice, 8, isAllowed));
            }
            for (int bar : NO_BARS) {
                SCORE.notThere("allowTurn behind bar " + bar, house -> house.allowTurn(0, bar, isAllowed));
            }
            NEW.notThere("allowTurn behind bar 0", house -> house.allowTurn(0, 0, isAllowed));
        }
    }

    // ---- playing

    private static void refusedRepeats() {
        for (int bar : NO_BARS) {
            SCORE.notThere("addRepeat from " + bar, house -> house.addRepeat(bar, 7, 0));
            SCORE.notThere("addRepeat to " + bar, house -> house.addRepeat(6, bar, 0));
            SCORE.notThere("addRepeat from " + bar + ", endings", house -> house.addRepeat(bar, 7, -1));
            SCORE.notThere("addRepeat to " + bar + ", endings", house -> house.addRepeat(6, bar, 99));
            SCORE.notThere("addRepeat to " + bar + ", in common", house -> house.addRepeat(1, bar, 0));
        }
        NEW.notThere("addRepeat from 0", house -> house.addRepeat(0, 0, 0));
        SCORE.badArgument("addRepeat backwards by one", house -> house.addRepeat(7, 6, 0));
        SCORE.badArgument("addRepeat backwards, in common", house -> house.addRepeat(2, 1, 0));
        for (int endings : new int[] {-1, 2, 3, LEAST, MOST}) {
            SCORE.badArgument("addRepeat of 2 bars, endings " + endings, house -> house.addRepeat(6, 7, endings));
        }
        for (int endings : new int[] {-1, 1, 2}) {
            SCORE.badArgument("addRepeat of a bar, endings " + endings, house -> house.addRepeat(4, 4, endings));
        }
        for (int endings : new int[] {-1, 3, 4}) {
            SCORE.badArgument("addRepeat in common, endings " + endings, house -> house.addRepeat(1, 3, endings));
        }
        int[][] common = {{1, 3}, {0, 1}, {3, 4}, {2, 2}, {1, 1}, {3, 3},
                {0, 4}, {0, 7}, {5, 5}, {4, 5}, {5, 6}, {4, 7}};
        for (int[] bars : common) {
            SCORE.badState("addRepeat in common, " + bars[0] + " to " + bars[1],
                    house -> house.addRepeat(bars[0], bars[1], 0));
        }
        FULL.badState("addRepeat of the first bar", house -> house.addRepeat(0, 0, 0));
        FULL.badState("addRepeat of the last bar", house -> house.addRepeat(23, 23, 0));
    }

    private static void refusedDropRepeat() {
        for (int bar : NO_BARS) {
            SCORE.notThere("dropRepeat " + bar, house -> house.dropRepeat(bar));
        }
        for (int bar : new int[] {0, 2, 3, 4, 6, 7}) {
            SCORE.badState("dropRepeat " + bar, house -> house.dropRepeat(bar));
        }
        NEW.notThere("dropRepeat 0", house -> house.dropRepeat(0));
        FULL.badState("dropRepeat where it ends", house -> house.dropRepeat(23));
    }

    private static void refusedPlaces() {
        // 8 bars, 2 of three once more, and one.
        for (int place : new int[] {-1, 11, 48, LEAST, MOST}) {
            SCORE.notThere("barAt " + place, house -> house.barAt(place));
            SCORE.notThere("startOf " + place, house -> house.startOf(place));
        }
        for (int place : new int[] {-1, 0, 1}) {
            NEW.notThere("barAt " + place, house -> house.barAt(place));
            NEW.notThere("startOf " + place, house -> house.startOf(place));
        }
        FULL.notThere("barAt 25", house -> house.barAt(25));
        FULL.notThere("startOf 25", house -> house.startOf(25));
        for (int voice : NO_VOICES) {
            SCORE.badArgument("timeByEvents of voice " + voice, house -> house.timeByEvents(voice));
            NEW.badArgument("timeByEvents of voice " + voice, house -> house.timeByEvents(voice));
        }
    }

    private static void refusedSoundNumber(Scene scene, int sound) {
        scene.notThere("soundVoice " + sound, house -> house.soundVoice(sound));
        scene.notThere("soundStart " + sound, house -> house.soundStart(sound));
        scene.notThere("soundTime " + sound, house -> house.soundTime(sound));
        scene.notThere("soundPitch " + sound, house -> house.soundPitch(sound));
        scene.notThere("loudness " + sound, house -> house.loudness(sound));
    }

    private static void refusedSounds() {
        int sounds = SCORE.house().sounds();
        for (int sound : new int[] {-1, sounds, sounds + 1, LEAST, MOST}) {
            refusedSoundNumber(SCORE, sound);
        }
        for (int sound : new int[] {-1, 0, 1}) {
            refusedSoundNumber(NEW, sound);
        }
        // 16, and once more.
        refusedSoundNumber(FULL, 32);
    }

    // ---- parts and lines

    private static void refusedPaper() {
        int[][] wrong = {{39, 3, 500}, {401, 3, 500}, {LEAST, 3, 500}, {MOST, 3, 500}, {0, 3, 500}, {-40, 3, 500},
                {60, 0, 500}, {60, 7, 500}, {60, -1, 500}, {60, LEAST, 500}, {60, MOST, 500},
                {60, 3, -1}, {60, 3, 20001}, {60, 3, LEAST}, {60, 3, MOST}, {39, 0, -1}, {401, 7, 20001}};
        for (int[] paper : wrong) {
            String what = "setPaper " + paper[0] + ", " + paper[1] + ", " + paper[2];
            SCORE.badArgument(what, house -> house.setPaper(paper[0], paper[1], paper[2]));
        }
    }

    private interface OfPart {
        void tell(ScoreHouse house, int voice, int number);
    }

    /** What all calls throw that are of something numbered in a part; of the voice 0 there are so many. */
    private static void refusedOfPart(String what, int count, OfPart call) {
        for (int voice : NO_VOICES) {
            for (int number : new int[] {0, -1, count}) {
                SCORE.badArgument(what + " " + voice + ", " + number, house -> call.tell(house, voice, number));
            }
            NEW.badArgument(what + " " + voice + " without bars", house -> call.tell(house, voice, 0));
        }
        for (int number : new int[] {0, -1, count, MOST, LEAST}) {
            SCORE.badState(what + " " + number + ", not drawn", house -> call.tell(house, 2, number));
            NEW.badState(what + " " + number + ", no bars", house -> call.tell(house, 0, number));
        }
        for (int number : new int[] {-1, count, count + 1, MOST, LEAST}) {
            SCORE.notThere(what + " " + number, house -> call.tell(house, 0, number));
        }
        BAR.notThere(what + " 1 of one at most", house -> call.tell(house, 3, 1));
        BAR.notThere(what + " -1 of one at most", house -> call.tell(house, 3, -1));
    }

    private interface OfVoice {
        void tell(ScoreHouse house, int voice);
    }

    private static void refusedOfVoice(String what, OfVoice call) {
        for (int voice : NO_VOICES) {
            SCORE.badArgument(what + " " + voice, house -> call.tell(house, voice));
            NEW.badArgument(what + " " + voice + " without bars", house -> call.tell(house, voice));
        }
        SCORE.badState(what + ", not drawn", house -> call.tell(house, 2));
        FULL.badState(what + ", not drawn", house -> call.tell(house, 0));
        for (int v = 0; v < 4; v++) {
            int voice = v;
            NEW.badState(what + " " + voice + ", no bars", house -> call.tell(house, voice));
        }
    }

    private static void refusedItems() {
        refusedOfVoice("items", ScoreHouse::items);
        int items = SCORE.house().items(0);
        refusedOfPart("itemKind", items, ScoreHouse::itemKind);
        refusedOfPart("itemBar", items, ScoreHouse::itemBar);
        refusedOfPart("itemBars", items, ScoreHouse::itemBars);
        refusedOfPart("cue", items, ScoreHouse::cue);
        refusedOfPart("itemWidth", items, ScoreHouse::itemWidth);
    }

    private static void refusedLines() {
        refusedOfVoice("lines", ScoreHouse::lines);
        refusedOfVoice("badness", ScoreHouse::badness);
        refusedOfPart("firstItem", SCORE.house().lines(0), ScoreHouse::firstItem);
    }

    // ---- pages, turns and sheets

    private static void refusedPages() {
        refusedOfVoice("pages", ScoreHouse::pages);
        refusedOfPart("pageLines", SCORE.house().pages(0), ScoreHouse::pageLines);
        refusedOfPart("pageOf", 8, ScoreHouse::pageOf);
    }

    private static void refusedTurns() {
        refusedOfVoice("pageTurns", ScoreHouse::pageTurns);
        refusedOfVoice("badTurns", ScoreHouse::badTurns);
        int turns = SCORE.house().pageTurns(0);
        CHECK.yes("there are turns", turns > 0);
        refusedOfPart("turnBar", turns, ScoreHouse::turnBar);
        refusedOfPart("turnTime", turns, ScoreHouse::turnTime);
        refusedOfPart("turnRest", turns, ScoreHouse::turnRest);
        for (int turn : new int[] {-1, 0, 1}) {
            BAR.notThere("turnBar " + turn + " of none", house -> house.turnBar(3, turn));
            BAR.notThere("turnTime " + turn + " of none", house -> house.turnTime(3, turn));
            BAR.notThere("turnRest " + turn + " of none", house -> house.turnRest(3, turn));
        }
    }

    private static void refusedSheets() {
        refusedOfVoice("sheets", ScoreHouse::sheets);
        int sheets = SCORE.house().sheets(0);
        for (boolean isFront : new boolean[] {false, true}) {
            for (boolean isLeft : new boolean[] {false, true}) {
                refusedOfPart("sheetPage", sheets,
                        (house, voice, sheet) -> house.sheetPage(voice, sheet, isFront, isLeft));
            }
        }
    }
}
