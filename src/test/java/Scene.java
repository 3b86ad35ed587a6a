import java.util.ArrayList;
import java.util.List;

/**
 * A score that is told anew to each house that is asked, as a house is used for at most 512 calls: so all that can be
 * asked is asked of as many houses as it takes. What a refused call changed shows in an answer that is another one.
 */
final class Scene {
    interface Telling {
        void tell(ScoreHouse house);
    }

    private interface Asking {
        long ask(ScoreHouse house);
    }

    private record Question(String text, Asking asking) { }

    private static final int MOST_ASKED = 220;
    private static final int VOICES = 4;
    private static final int NONE = ScoreHouse.NONE;

    private final Check check;
    private final String name;
    private final Telling telling;
    private final List<Question> questions = new ArrayList<>();
    private final List<String> due;

    Scene(Check check, String name, Telling telling) {
        this.check = check;
        this.name = name;
        this.telling = telling;
        int bars = house().bars();
        askOfBars(bars);
        askOfPlaying();
        for (int voice = 0; voice < VOICES; voice++) {
            askOfEvents(voice, bars);
            askOfItems(voice);
            askOfPages(voice, bars);
        }
        // What these answer is told by what was told before, and they change it: so they come last.
        for (int voice = 0; voice < VOICES; voice++) {
            takeEventsBack(voice, bars);
        }
        takeAllElseBack(bars);
        due = answers(house -> { });
    }

    ScoreHouse house() {
        ScoreHouse house = new ScoreHouse();
        telling.tell(house);
        return house;
    }

    /** The call throws just this, and all that can be asked behind it answers as if it had not been. */
    void refuses(Class<? extends RuntimeException> exception, String what, Telling refused) {
        ScoreHouse house = house();
        check.refused(name + ": " + what, exception, () -> refused.tell(house));
        List<String> got = answers(refused);
        for (int i = 0; i < due.size(); i++) {
            String told = name + ": behind the refused " + what + ": " + questions.get(i).text;
            check.same(told + " is " + got.get(i) + ", was " + due.get(i), got.get(i).equals(due.get(i)) ? 1 : 0, 1);
        }
    }

    void badArgument(String what, Telling refused) {
        refuses(IllegalArgumentException.class, what, refused);
    }

    void notThere(String what, Telling refused) {
        refuses(IndexOutOfBoundsException.class, what, refused);
    }

    void badState(String what, Telling refused) {
        refuses(IllegalStateException.class, what, refused);
    }

    private List<String> answers(Telling refused) {
        List<String> answers = new ArrayList<>();
        ScoreHouse house = null;
        for (int i = 0; i < questions.size(); i++) {
            if (i % MOST_ASKED == 0) {
                house = house();
                answerOf(house, asked -> {
                    refused.tell(asked);
                    return 0;
                });
            }
            answers.add(answerOf(house, questions.get(i).asking));
        }
        return answers;
    }

    private static String answerOf(ScoreHouse house, Asking asking) {
        try {
            return String.valueOf(asking.ask(house));
        } catch (RuntimeException thrown) {
            return thrown.getClass().getSimpleName();
        }
    }

    private void add(String text, Asking asking) {
        questions.add(new Question(text, asking));
    }

    private static long number(boolean answer) {
        return answer ? 1 : 0;
    }

    private void askOfBars(int bars) {
        add("bars", ScoreHouse::bars);
        add("phrases", ScoreHouse::phrases);
        // One bar more than there are, here and below: it would be there, if a refused call had added it.
        for (int b = 0; b <= bars; b++) {
            int bar = b;
            add("length " + bar, house -> house.length(bar));
            add("tempo " + bar, house -> house.tempo(bar));
            add("time " + bar, house -> house.time(bar));
        }
    }

    private void askOfPlaying() {
        ScoreHouse probe = house();
        add("places", ScoreHouse::places);
        add("playingTime", ScoreHouse::playingTime);
        add("sounds", ScoreHouse::sounds);
        for (int p = 0; p <= probe.places(); p++) {
            int place = p;
            add("barAt " + place, house -> house.barAt(place));
            add("startOf " + place, house -> house.startOf(place));
        }
        for (int s = 0; s <= probe.sounds(); s++) {
            int sound = s;
            add("soundVoice " + sound, house -> house.soundVoice(sound));
            add("soundStart " + sound, house -> house.soundStart(sound));
            add("soundTime " + sound, house -> house.soundTime(sound));
            add("soundPitch " + sound, house -> house.soundPitch(sound));
            add("loudness " + sound, house -> house.loudness(sound));
        }
    }

    private void askOfEvents(int voice, int bars) {
        ScoreHouse probe = house();
        add("timeByEvents " + voice, house -> house.timeByEvents(voice));
        for (int b = 0; b < bars; b++) {
            int bar = b;
            String at = " " + voice + ", " + bar;
            add("events" + at, house -> house.events(voice, bar));
            add("left" + at, house -> house.left(voice, bar));
            add("isRight" + at, house -> number(house.isRight(voice, bar)));
            for (int i = 0; i <= probe.events(voice, bar); i++) {
                int index = i;
                add("written" + at + ", " + index, house -> house.written(voice, bar, index));
            }
        }
    }

    private static long countOf(ScoreHouse house, Asking asking) {
        try {
            return asking.ask(house);
        } catch (IllegalStateException notDrawn) {
            return 0;
        }
    }

    private void askOfItems(int voice) {
        String of = " " + voice + ", ";
        add("items" + of, house -> house.items(voice));
        add("lines" + of, house -> house.lines(voice));
        add("badness" + of, house -> house.badness(voice));
        for (int i = 0; i <= countOf(house(), house -> house.items(voice)); i++) {
            int item = i;
            add("itemKind" + of + item, house -> house.itemKind(voice, item));
            add("itemBar" + of + item, house -> house.itemBar(voice, item));
            add("itemBars" + of + item, house -> house.itemBars(voice, item));
            add("cue" + of + item, house -> house.cue(voice, item));
            add("itemWidth" + of + item, house -> house.itemWidth(voice, item));
        }
        for (int l = 0; l <= countOf(house(), house -> house.lines(voice)); l++) {
            int line = l;
            add("firstItem" + of + line, house -> house.firstItem(voice, line));
        }
    }

    private void askOfPages(int voice, int bars) {
        String of = " " + voice + ", ";
        add("pages" + of, house -> house.pages(voice));
        add("pageTurns" + of, house -> house.pageTurns(voice));
        add("badTurns" + of, house -> house.badTurns(voice));
        add("sheets" + of, house -> house.sheets(voice));
        for (int p = 0; p <= countOf(house(), house -> house.pages(voice)); p++) {
            int page = p;
            add("pageLines" + of + page, house -> house.pageLines(voice, page));
        }
        for (int b = 0; b <= bars; b++) {
            int bar = b;
            add("pageOf" + of + bar, house -> house.pageOf(voice, bar));
        }
        for (int t = 0; t <= countOf(house(), house -> house.pageTurns(voice)); t++) {
            int turn = t;
            add("turnBar" + of + turn, house -> house.turnBar(voice, turn));
            add("turnTime" + of + turn, house -> house.turnTime(voice, turn));
            add("turnRest" + of + turn, house -> house.turnRest(voice, turn));
        }
        for (int s = 0; s <= countOf(house(), house -> house.sheets(voice)); s++) {
            int sheet = s;
            add("front left" + of + sheet, house -> house.sheetPage(voice, sheet, true, true));
            add("back right" + of + sheet, house -> house.sheetPage(voice, sheet, false, false));
        }
    }

    private void takeEventsBack(int voice, int bars) {
        ScoreHouse probe = house();
        for (int b = 0; b < bars; b++) {
            int bar = b;
            String at = " " + voice + ", " + bar;
            add("allowTurn" + at, house -> number(house.allowTurn(voice, bar, false)));
            for (int i = probe.events(voice, bar); i >= 0; i--) {
                int index = i;
                add("setTie" + at + ", " + index, house -> number(house.setTie(voice, bar, index, false)));
                add("setMark" + at + ", " + index, house -> house.setMark(voice, bar, index, NONE));
                add("setPitch" + at + ", " + index, house -> house.setPitch(voice, bar, index, 0));
            }
        }
        add("transpose " + voice, house -> house.transpose(voice, 0));
    }

    private void takeAllElseBack(int bars) {
        for (int b = 0; b < bars; b++) {
            int bar = b;
            add("setTempo " + bar, house -> house.setTempo(bar, NONE));
            add("dropRepeat " + bar, house -> house.dropRepeat(bar));
        }
        for (int p = 0; p <= 20; p++) {
            int phrase = p;
            add("dropPhrase " + phrase, house -> number(house.dropPhrase(phrase)));
        }
        for (int v = 0; v < VOICES; v++) {
            int voice = v;
            add("addPhrase " + voice, house -> house.addPhrase(voice, 0, 0, 0, 1));
        }
        add("addBar", house -> house.addBar(1, 8));
        for (int v = 0; v < VOICES; v++) {
            for (int b = 0; b < bars; b++) {
                for (int i = house().events(v, b) - 1; i >= 0; i--) {
                    int voice = v;
                    int bar = b;
                    int index = i;
                    add("remove " + voice + ", " + bar + ", " + index, house -> house.remove(voice, bar, index));
                }
            }
        }
    }
}
