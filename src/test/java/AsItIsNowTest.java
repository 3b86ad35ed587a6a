import java.util.ArrayList;
import java.util.List;

/**
 * What is played and drawn "can be asked, always by the score as it is now": also when it was asked just ahead of what
 * is told. Each call that tells something is told to a house that was asked all, and to one that was asked nothing.
 */
public final class AsItIsNowTest {
    private static final Check CHECK = new Check("AsItIsNowTest");
    private static final int PLAIN = ScoreHouse.PLAIN;

    private static final List<String> NAMES = new ArrayList<>();
    private static final List<Scene.Telling> STEPS = new ArrayList<>();

    private static void step(String name, Scene.Telling telling) {
        NAMES.add(name);
        STEPS.add(telling);
    }

    public static void main(String[] args) {
        step("notes", AsItIsNowTest::tellNotes);
        step("setPaper, width", house -> house.setPaper(41, 4, 1500));
        step("setPaper, lines", house -> house.setPaper(41, 1, 1500));
        step("setPaper, rest", house -> house.setPaper(41, 1, 0));
        step("addPhrase", house -> house.addPhrase(0, 0, 0, 2, 0));
        step("allowTurn", house -> house.allowTurn(0, 0, true));
        step("allowTurn, not any more", house -> house.allowTurn(0, 0, false));
        step("dropPhrase", house -> house.dropPhrase(0));
        step("addBar", house -> house.addBar(2, 4));
        step("addBar of another metre", house -> house.addBar(3, 4));
        step("setMetre", house -> house.setMetre(4, 2, 8));
        step("setTempo", house -> house.setTempo(2, 60));
        step("addRepeat", house -> house.addRepeat(1, 2, 1));
        step("insert", house -> house.insert(1, 1, 0, 60, 1, PLAIN));
        step("setTie", house -> house.setTie(0, 0, 0, true));
        step("setMark", house -> house.setMark(0, 0, 0, 5));
        step("setPitch", house -> house.setPitch(0, 1, 0, 61));
        step("transpose", house -> house.transpose(0, 7));
        step("dropRepeat", house -> house.dropRepeat(1));
        step("setTempo, none", house -> house.setTempo(2, ScoreHouse.NONE));
        step("remove", house -> house.remove(1, 1, 0));
        step("remove with a phrase", house -> house.remove(0, 2, 0));
        for (int last = 0; last < STEPS.size(); last++) {
            answersAreThoseOfNow(last);
        }
        CHECK.end();
    }

    private static void tellNotes(ScoreHouse house) {
        for (int bar = 0; bar < 3; bar++) {
            house.addBar(2, 4);
            house.insert(0, bar, 0, 60, 1, PLAIN);
        }
    }

    private static void answersAreThoseOfNow(int last) {
        ScoreHouse askedNothing = new ScoreHouse();
        ScoreHouse askedAll = new ScoreHouse();
        for (int i = 0; i < last; i++) {
            STEPS.get(i).tell(askedNothing);
            STEPS.get(i).tell(askedAll);
        }
        String before = answers(askedAll);
        STEPS.get(last).tell(askedNothing);
        STEPS.get(last).tell(askedAll);
        String now = answers(askedAll);
        CHECK.yes(NAMES.get(last) + " changes an answer", !now.equals(before));
        CHECK.yes(NAMES.get(last) + ": " + now, now.equals(answers(askedNothing)));
    }

    private static String answers(ScoreHouse house) {
        StringBuilder told = new StringBuilder();
        told.append(house.bars()).append(' ').append(house.places()).append(' ').append(house.playingTime());
        if (house.bars() > 0 && house.events(0, 0) > 0) {
            told.append(" written ").append(house.written(0, 0, 0));
        }
        for (int sound = 0; sound < house.sounds(); sound++) {
            told.append("; sound ").append(house.soundVoice(sound)).append(' ').append(house.soundStart(sound))
                    .append(' ').append(house.soundTime(sound)).append(' ').append(house.soundPitch(sound))
                    .append(' ').append(house.loudness(sound));
        }
        for (int voice = 0; voice < 4 && house.bars() > 0; voice++) {
            told.append("; part ").append(house.items(voice)).append(' ').append(house.itemWidth(voice, 0))
                    .append(' ').append(house.lines(voice)).append(' ').append(house.badness(voice))
                    .append(' ').append(house.pages(voice)).append(' ').append(house.pageTurns(voice))
                    .append(' ').append(house.badTurns(voice)).append(' ').append(house.sheets(voice));
        }
        return told.toString();
    }
}
