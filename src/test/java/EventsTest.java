/** Promises 9 to 18. */
public final class EventsTest {
    private static final Check CHECK = new Check("EventsTest");
    private static final int PLAIN = ScoreHouse.PLAIN, DOTTED = ScoreHouse.DOTTED, TRIPLET = ScoreHouse.TRIPLET;

    public static void main(String[] args) {
        promise9InsertTicks();
        promise9InsertRefused();
        promise10Remove();
        promise11SetPitch();
        promise12SetTie();
        promise13SetMark();
        promise14Transpose();
        promise15Events();
        promise16Left();
        promise17IsRight();
        promise18Written();
        toldStaysWithItsEvent();
        CHECK.end();
    }

    private static ScoreHouse withBar(int beats, int unit) {
        ScoreHouse house = new ScoreHouse();
        house.addBar(beats, unit);
        return house;
    }

    private static void promise9InsertTicks() {
        int[][] ticks = {{96, 48, 24, 12, 6, 3}, {144, 72, 36, 18, 9, 0}, {64, 32, 16, 8, 4, 2}};
        for (int form = PLAIN; form <= TRIPLET; form++) {
            for (int kind = 0; kind <= 5; kind++) {
                if (ticks[form][kind] > 0) {
                    ScoreHouse house = withBar(9, 2);
                    CHECK.same("left behind kind " + kind + " form " + form,
                            house.insert(0, 0, 0, 60, kind, form), 432 - ticks[form][kind]);
                }
            }
        }
        ScoreHouse house = withBar(4, 4);
        CHECK.same("first", house.insert(0, 0, 0, 61, 2, PLAIN), 72);
        CHECK.same("ahead of it", house.insert(0, 0, 0, 62, 2, PLAIN), 48);
        CHECK.same("between them", house.insert(0, 0, 1, 63, 2, PLAIN), 24);
        CHECK.same("behind them", house.insert(0, 0, 3, 64, 2, PLAIN), 0);
        int[] order = {62, 63, 61, 64};
        for (int index = 0; index < order.length; index++) {
            CHECK.same("order " + index, house.written(0, 0, index), order[index]);
        }
        CHECK.same("another voice has its own room", house.insert(3, 0, 0, 0, 0, PLAIN), 0);
        CHECK.no("without a tie", house.setTie(0, 0, 0, true));
        CHECK.same("without a mark", house.setMark(0, 0, 0, 1), ScoreHouse.NONE);
    }

    private static void promise9InsertRefused() {
        ScoreHouse house = withBar(4, 4);
        CHECK.badArgument("voice -1", () -> house.insert(-1, 0, 0, 60, 2, PLAIN));
        CHECK.badArgument("voice 4", () -> house.insert(4, 0, 0, 60, 2, PLAIN));
        CHECK.badArgument("pitch -1", () -> house.insert(0, 0, 0, -1, 2, PLAIN));
        CHECK.badArgument("pitch 128", () -> house.insert(0, 0, 0, 128, 2, PLAIN));
        CHECK.badArgument("kind -1", () -> house.insert(0, 0, 0, 60, -1, PLAIN));
        CHECK.badArgument("kind 6", () -> house.insert(0, 0, 0, 60, 6, PLAIN));
        CHECK.badArgument("form -1", () -> house.insert(0, 0, 0, 60, 2, -1));
        CHECK.badArgument("form 3", () -> house.insert(0, 0, 0, 60, 2, 3));
        CHECK.badArgument("kind 5 dotted", () -> house.insert(0, 0, 0, 60, 5, DOTTED));
        CHECK.badArgument("kind 5 dotted where no bar is", () -> house.insert(0, 9, 0, 60, 5, DOTTED));
        CHECK.notThere("bar 1", () -> house.insert(0, 1, 0, 60, 2, PLAIN));
        CHECK.notThere("bar -1", () -> house.insert(0, -1, 0, 60, 2, PLAIN));
        CHECK.notThere("index 1 of none", () -> house.insert(0, 0, 1, 60, 2, PLAIN));
        CHECK.notThere("index -1, too long too", () -> house.insert(0, 0, -1, 60, 0, DOTTED));
        CHECK.badState("longer than the bar", () -> house.insert(0, 0, 0, 60, 0, DOTTED));
        CHECK.same("refused events are not there", house.events(0, 0), 0);
        house.insert(0, 0, 0, 60, 1, DOTTED);
        CHECK.badState("longer than what is left", () -> house.insert(0, 0, 1, 60, 1, TRIPLET));
        CHECK.same("just what is left", house.insert(0, 0, 1, 60, 2, PLAIN), 0);
        for (int index = 0; index < 16; index++) {
            house.insert(1, 0, index, 60, 5, PLAIN);
        }
        CHECK.badState("17th event", () -> house.insert(1, 0, 3, 60, 5, TRIPLET));
        CHECK.notThere("17th event at a wrong index", () -> house.insert(1, 0, 17, 60, 5, TRIPLET));
        CHECK.same("ticks left though", house.left(1, 0), 48);
        house.transpose(2, 12);
        CHECK.badState("written 128", () -> house.insert(2, 0, 0, 116, 2, PLAIN));
        CHECK.same("written 127", house.insert(2, 0, 0, 115, 2, PLAIN), 72);
        CHECK.same("a rest is not written", house.insert(2, 0, 0, 0, 2, PLAIN), 48);
        house.transpose(3, -12);
        CHECK.badState("written 0", () -> house.insert(3, 0, 0, 12, 2, PLAIN));
        CHECK.same("written 1", house.insert(3, 0, 0, 13, 2, PLAIN), 72);
    }

    private static void promise10Remove() {
        ScoreHouse house = withBar(4, 4);
        house.insert(0, 0, 0, 60, 2, DOTTED);
        house.insert(0, 0, 1, 61, 3, TRIPLET);
        house.insert(0, 0, 2, 62, 4, PLAIN);
        CHECK.badArgument("voice 4", () -> house.remove(4, 9, 9));
        CHECK.notThere("bar 1", () -> house.remove(0, 1, 0));
        CHECK.notThere("event 3", () -> house.remove(0, 0, 3));
        CHECK.notThere("event -1", () -> house.remove(0, 0, -1));
        CHECK.notThere("event of another voice", () -> house.remove(1, 0, 0));
        CHECK.same("triplet", house.remove(0, 0, 1), 8);
        CHECK.same("those behind go ahead", house.written(0, 0, 1), 62);
        CHECK.same("ticks are left again", house.left(0, 0), 54);
        CHECK.same("dotted", house.remove(0, 0, 0), 36);
        CHECK.same("plain", house.remove(0, 0, 0), 6);
        CHECK.same("none there", house.events(0, 0), 0);
        CHECK.same("all is left", house.left(0, 0), 96);
    }

    private static void promise11SetPitch() {
        ScoreHouse house = withBar(4, 4);
        house.insert(0, 0, 0, 60, 2, PLAIN);
        CHECK.same("pitch before", house.setPitch(0, 0, 0, 1), 60);
        CHECK.same("pitch before", house.setPitch(0, 0, 0, 127), 1);
        house.setTie(0, 0, 0, true);
        house.setPitch(0, 0, 0, 70);
        CHECK.yes("another pitch keeps the tie", house.setTie(0, 0, 0, true));
        house.setMark(0, 0, 0, 3);
        CHECK.same("pitch before", house.setPitch(0, 0, 0, 0), 70);
        CHECK.same("a rest before", house.setPitch(0, 0, 0, 71), 0);
        CHECK.no("the tie is told no more", house.setTie(0, 0, 0, false));
        CHECK.same("the mark still is", house.setMark(0, 0, 0, 3), 3);
        CHECK.badArgument("voice -1", () -> house.setPitch(-1, 0, 0, 60));
        CHECK.badArgument("pitch 128 where no bar is", () -> house.setPitch(0, 5, 0, 128));
        CHECK.badArgument("pitch -1", () -> house.setPitch(0, 0, 0, -1));
        CHECK.notThere("bar 1", () -> house.setPitch(0, 1, 0, 60));
        CHECK.notThere("event 1", () -> house.setPitch(0, 0, 1, 60));
        house.transpose(0, 12);
        CHECK.badState("written 128", () -> house.setPitch(0, 0, 0, 116));
        CHECK.notThere("no event, written 128 too", () -> house.setPitch(0, 0, 1, 116));
        CHECK.same("written 127", house.setPitch(0, 0, 0, 115), 71);
        CHECK.same("a rest is not written", house.setPitch(0, 0, 0, 0), 115);
    }

    private static void promise12SetTie() {
        ScoreHouse house = withBar(4, 4);
        house.insert(0, 0, 0, 60, 2, PLAIN);
        house.insert(0, 0, 1, 0, 2, PLAIN);
        CHECK.no("not tied", house.setTie(0, 0, 0, true));
        CHECK.yes("tied", house.setTie(0, 0, 0, true));
        CHECK.yes("tied", house.setTie(0, 0, 0, false));
        CHECK.no("not tied any more", house.setTie(0, 0, 0, false));
        CHECK.badArgument("voice 4", () -> house.setTie(4, 0, 0, true));
        CHECK.notThere("bar 1", () -> house.setTie(0, 1, 0, true));
        CHECK.notThere("event 2", () -> house.setTie(0, 0, 2, true));
        CHECK.badState("a rest tied", () -> house.setTie(0, 0, 1, true));
        CHECK.badState("a rest not tied", () -> house.setTie(0, 0, 1, false));
    }

    private static void promise13SetMark() {
        ScoreHouse house = withBar(4, 4);
        house.insert(0, 0, 0, 60, 2, PLAIN);
        house.insert(0, 0, 1, 0, 2, PLAIN);
        CHECK.same("none", house.setMark(0, 0, 0, 0), ScoreHouse.NONE);
        CHECK.same("0", house.setMark(0, 0, 0, 5), 0);
        CHECK.same("5", house.setMark(0, 0, 0, ScoreHouse.NONE), 5);
        CHECK.same("taken away", house.setMark(0, 0, 0, 1), ScoreHouse.NONE);
        CHECK.same("a rest can have one", house.setMark(0, 0, 1, 2), ScoreHouse.NONE);
        CHECK.same("a rest has it", house.setMark(0, 0, 1, 2), 2);
        CHECK.badArgument("voice -1", () -> house.setMark(-1, 0, 0, 1));
        CHECK.badArgument("mark 6", () -> house.setMark(0, 0, 0, 6));
        CHECK.badArgument("mark -2 where no bar is", () -> house.setMark(0, 4, 0, -2));
        CHECK.notThere("bar 1", () -> house.setMark(0, 1, 0, 1));
        CHECK.notThere("event 2", () -> house.setMark(0, 0, 2, 1));
        CHECK.same("refused mark is not told", house.setMark(0, 0, 0, 1), 1);
    }

    private static void promise14Transpose() {
        ScoreHouse house = withBar(4, 4);
        house.addBar(4, 4);
        house.insert(0, 0, 0, 0, 2, PLAIN);
        house.insert(0, 1, 0, 120, 2, PLAIN);
        CHECK.same("not at first", house.transpose(0, 7), 0);
        CHECK.same("written", house.written(0, 1, 0), 127);
        CHECK.badState("written 128", () -> house.transpose(0, 8));
        CHECK.same("by as much as before", house.transpose(0, -12), 7);
        CHECK.same("written", house.written(0, 1, 0), 108);
        CHECK.badArgument("by 13", () -> house.transpose(0, 13));
        CHECK.badArgument("by -13", () -> house.transpose(0, -13));
        CHECK.badArgument("voice 4", () -> house.transpose(4, 0));
        CHECK.badArgument("voice -1", () -> house.transpose(-1, 0));
        CHECK.same("other voices are not", house.transpose(1, 12), 0);
        house.insert(1, 0, 0, 12, 2, PLAIN);
        CHECK.badState("written 0", () -> house.transpose(1, -12));
        CHECK.same("written 1", house.transpose(1, -11), 12);
        CHECK.same("by -11 then", house.transpose(1, 0), -11);
    }

    private static void promise15Events() {
        ScoreHouse house = withBar(4, 4);
        CHECK.same("none", house.events(2, 0), 0);
        house.insert(2, 0, 0, 60, 2, PLAIN);
        house.insert(2, 0, 0, 0, 2, PLAIN);
        CHECK.same("two", house.events(2, 0), 2);
        CHECK.same("none of another voice", house.events(1, 0), 0);
        CHECK.badArgument("voice 4", () -> house.events(4, 7));
        CHECK.badArgument("voice -1", () -> house.events(-1, 0));
        CHECK.notThere("bar 1", () -> house.events(0, 1));
        CHECK.notThere("bar -1", () -> house.events(0, -1));
    }

    private static void promise16Left() {
        ScoreHouse house = withBar(3, 8);
        CHECK.same("all", house.left(0, 0), 36);
        house.insert(0, 0, 0, 60, 3, PLAIN);
        CHECK.same("less", house.left(0, 0), 24);
        CHECK.same("all for another voice", house.left(1, 0), 36);
        house.setMetre(0, 9, 2);
        CHECK.same("of the new metre", house.left(0, 0), 420);
        CHECK.badArgument("voice 4", () -> house.left(4, 7));
        CHECK.notThere("bar 1", () -> house.left(0, 1));
        CHECK.notThere("bar -1", () -> house.left(0, -1));
    }

    private static void fill(ScoreHouse house, int voice, int... kindsAndForms) {
        for (int i = 0; i + 1 < kindsAndForms.length; i += 2) {
            house.insert(voice, 0, i / 2, 60, kindsAndForms[i], kindsAndForms[i + 1]);
        }
    }

    private static void promise17IsRight() {
        ScoreHouse house = withBar(2, 4);
        CHECK.yes("empty", house.isRight(0, 0));
        fill(house, 0, 2, PLAIN);
        CHECK.no("not full", house.isRight(0, 0));
        house.insert(0, 0, 1, 0, 2, PLAIN);
        CHECK.yes("full", house.isRight(0, 0));
        fill(house, 1, 3, TRIPLET, 3, TRIPLET, 3, TRIPLET, 2, PLAIN);
        CHECK.yes("three triplets one behind the other", house.isRight(1, 0));
        fill(house, 2, 2, TRIPLET, 3, PLAIN, 2, TRIPLET, 5, TRIPLET, 5, TRIPLET);
        CHECK.no("runs of 16 and 20 ticks", house.isRight(2, 0));
        fill(house, 3, 2, TRIPLET, 5, TRIPLET, 3, PLAIN, 3, TRIPLET, 4, TRIPLET, 4, PLAIN);
        CHECK.yes("runs of 18 and 12 ticks", house.isRight(3, 0));
        house.remove(3, 0, 5);
        house.insert(3, 0, 0, 60, 4, PLAIN);
        CHECK.yes("a run at the end", house.isRight(3, 0));
        house.setMetre(0, 5, 8);
        CHECK.no("no longer full", house.isRight(0, 0));
        ScoreHouse other = withBar(2, 4);
        fill(other, 0, 4, PLAIN, 4, PLAIN, 3, PLAIN, 2, TRIPLET, 3, TRIPLET);
        CHECK.yes("a run of 24", other.isRight(0, 0));
        other.remove(0, 0, 1);
        other.insert(0, 0, 3, 60, 4, PLAIN);
        CHECK.no("the first of two runs is not whole", other.isRight(0, 0));
        CHECK.same("though it is full", other.left(0, 0), 0);
        CHECK.badArgument("voice 4", () -> house.isRight(4, 7));
        CHECK.badArgument("voice -1", () -> house.isRight(-1, 0));
        CHECK.notThere("bar 1", () -> house.isRight(0, 1));
        CHECK.notThere("bar -1", () -> house.isRight(0, -1));
    }

    private static void promise18Written() {
        ScoreHouse house = withBar(4, 4);
        house.insert(0, 0, 0, 60, 2, PLAIN);
        house.insert(0, 0, 1, 0, 2, PLAIN);
        CHECK.same("a note", house.written(0, 0, 0), 60);
        CHECK.same("a rest", house.written(0, 0, 1), ScoreHouse.NONE);
        house.transpose(0, -5);
        CHECK.same("a note, transposed", house.written(0, 0, 0), 55);
        CHECK.same("a rest, transposed", house.written(0, 0, 1), ScoreHouse.NONE);
        CHECK.badArgument("voice 4", () -> house.written(4, 7, 0));
        CHECK.notThere("bar 1", () -> house.written(0, 1, 0));
        CHECK.notThere("event 2", () -> house.written(0, 0, 2));
        CHECK.notThere("event -1", () -> house.written(0, 0, -1));
    }

    private static void toldStaysWithItsEvent() {
        ScoreHouse house = withBar(4, 4);
        house.insert(0, 0, 0, 60, 3, PLAIN);
        house.setMark(0, 0, 0, 4);
        house.setTie(0, 0, 0, true);
        house.insert(0, 0, 0, 61, 3, PLAIN);
        house.insert(0, 0, 0, 62, 3, PLAIN);
        house.remove(0, 0, 1);
        CHECK.same("mark of what is put ahead", house.setMark(0, 0, 0, ScoreHouse.NONE), ScoreHouse.NONE);
        CHECK.no("tie of what is put ahead", house.setTie(0, 0, 0, false));
        CHECK.same("mark", house.setMark(0, 0, 1, 4), 4);
        CHECK.yes("tie", house.setTie(0, 0, 1, true));
    }
}
