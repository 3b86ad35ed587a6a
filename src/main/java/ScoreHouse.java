import java.util.ArrayList;

/** A house that engraves music, prints it and plays it. */
public final class ScoreHouse {
    public static final int NONE = -1;
    public static final int PLAIN = 0, DOTTED = 1, TRIPLET = 2;
    public static final int BAR = 0, REST = 1, CUE = 2;

    private static final int VOICES = 4;
    private static final int MOST_BARS = 24;
    private static final int MOST_EVENTS = 16;
    private static final int MOST_PHRASES = 20;
    private static final int MOST_BEATS = 9;
    private static final int HIGHEST_PITCH = 127;
    private static final int SHORTEST_KIND = 5;
    private static final int LOUDEST_MARK = 5;
    private static final int SLOWEST = 30, FASTEST = 240;
    private static final int WIDEST_TRANSPOSITION = 12;
    private static final int PAGES_A_SHEET = 4;

    private final Score score;
    private final Playing playing;
    private final Part[] parts;

    public ScoreHouse() {
        score = new Score();
        playing = new Playing();
        parts = new Part[VOICES];
    }

    // ---- bars

    public int addBar(int beats, int unit) throws IllegalArgumentException, IllegalStateException {
        requireMetre(beats, unit);
        if (score.barCount() >= MOST_BARS) {
            throw new IllegalStateException("there are as many bars as there can be");
        }
        score.bars.add(new Measure(beats, unit));
        score.edition++;
        return score.barCount() - 1;
    }

    public int setMetre(int bar, int beats, int unit)
            throws IndexOutOfBoundsException, IllegalArgumentException, IllegalStateException {
        requireBar(bar);
        requireMetre(beats, unit);
        Measure measure = score.measure(bar);
        if (measure.mostTicks() > Measure.ticksOf(beats, unit)) {
            throw new IllegalStateException("a voice has more ticks in the bar");
        }
        int before = measure.ticks();
        measure.beats = beats;
        measure.unit = unit;
        score.edition++;
        return before;
    }

    public int setTempo(int bar, int tempo) throws IndexOutOfBoundsException, IllegalArgumentException {
        requireBar(bar);
        if (tempo != NONE) {
            requireRange(tempo, SLOWEST, FASTEST);
        }
        Measure measure = score.measure(bar);
        int before = measure.toldTempo;
        measure.toldTempo = tempo;
        score.edition++;
        return before;
    }

    public int bars() {
        return score.barCount();
    }

    public int length(int bar) throws IndexOutOfBoundsException {
        requireBar(bar);
        return score.measure(bar).ticks();
    }

    public int tempo(int bar) throws IndexOutOfBoundsException {
        requireBar(bar);
        return score.tempoAt(bar);
    }

    public int time(int bar) throws IndexOutOfBoundsException {
        requireBar(bar);
        return score.timeOfBar(bar);
    }

    // ---- events

    public int insert(int voice, int bar, int index, int pitch, int kind, int form)
            throws IllegalArgumentException, IndexOutOfBoundsException, IllegalStateException {
        requireVoice(voice);
        requireRange(pitch, 0, HIGHEST_PITCH);
        requireRange(kind, 0, SHORTEST_KIND);
        requireRange(form, PLAIN, TRIPLET);
        if (kind == SHORTEST_KIND && form == DOTTED) {
            throw new IllegalArgumentException("the shortest kind cannot be dotted");
        }
        requireBar(bar);
        Row row = score.row(voice, bar);
        requireIndex(index, row.size() + 1);
        int left = score.ticksLeft(voice, bar) - Event.ticksOf(kind, form);
        if (row.size() >= MOST_EVENTS || left < 0 || !score.canBeWritten(voice, pitch)) {
            throw new IllegalStateException("the event has no room there or cannot be written");
        }
        row.putIn(index, new Event(pitch, kind, form));
        score.edition++;
        return left;
    }

    public int remove(int voice, int bar, int index) throws IllegalArgumentException, IndexOutOfBoundsException {
        Event event = requiredEvent(voice, bar, index);
        score.row(voice, bar).takeOut(index);
        score.dropPhrasesAt(event);
        score.edition++;
        return event.ticks;
    }

    public int setPitch(int voice, int bar, int index, int pitch)
            throws IllegalArgumentException, IndexOutOfBoundsException, IllegalStateException {
        requireRange(pitch, 0, HIGHEST_PITCH);
        Event event = requiredEvent(voice, bar, index);
        if (!score.canBeWritten(voice, pitch)) {
            throw new IllegalStateException("the pitch cannot be written");
        }
        int before = event.pitch;
        event.pitch = pitch;
        event.isTied = event.isTied && event.isNote();
        score.edition++;
        return before;
    }

    public boolean setTie(int voice, int bar, int index, boolean isTied)
            throws IllegalArgumentException, IndexOutOfBoundsException, IllegalStateException {
        Event event = requiredEvent(voice, bar, index);
        if (!event.isNote()) {
            throw new IllegalStateException("a rest cannot be tied");
        }
        boolean before = event.isTied;
        event.isTied = isTied;
        score.edition++;
        return before;
    }

    public int setMark(int voice, int bar, int index, int mark)
            throws IllegalArgumentException, IndexOutOfBoundsException {
        requireRange(mark, NONE, LOUDEST_MARK);
        Event event = requiredEvent(voice, bar, index);
        int before = event.mark;
        event.mark = mark;
        score.edition++;
        return before;
    }

    public int transpose(int voice, int by) throws IllegalArgumentException, IllegalStateException {
        requireVoice(voice);
        requireRange(by, -WIDEST_TRANSPOSITION, WIDEST_TRANSPOSITION);
        if (!score.canBeTransposed(voice, by)) {
            throw new IllegalStateException("a pitch could not be written");
        }
        int before = score.transpositions[voice];
        score.transpositions[voice] = by;
        score.edition++;
        return before;
    }

    public int events(int voice, int bar) throws IllegalArgumentException, IndexOutOfBoundsException {
        requireVoice(voice);
        requireBar(bar);
        return score.row(voice, bar).size();
    }

    public int left(int voice, int bar) throws IllegalArgumentException, IndexOutOfBoundsException {
        requireVoice(voice);
        requireBar(bar);
        return score.ticksLeft(voice, bar);
    }

    public boolean isRight(int voice, int bar) throws IllegalArgumentException, IndexOutOfBoundsException {
        requireVoice(voice);
        requireBar(bar);
        return score.isRightBar(voice, bar);
    }

    public int written(int voice, int bar, int index) throws IllegalArgumentException, IndexOutOfBoundsException {
        Event event = requiredEvent(voice, bar, index);
        return event.isNote() ? event.pitch + score.transpositions[voice] : NONE;
    }

    // ---- phrases

    public int addPhrase(int voice, int bar, int index, int lastBar, int lastIndex)
            throws IllegalArgumentException, IndexOutOfBoundsException, IllegalStateException {
        Event first = requiredEvent(voice, bar, index);
        Event last = requiredEvent(voice, lastBar, lastIndex);
        boolean isLater = lastBar > bar || lastBar == bar && lastIndex > index;
        if (!isLater || score.phrases.size() >= MOST_PHRASES) {
            throw new IllegalStateException("the phrase goes backwards, or there were too many");
        }
        score.phrases.add(new Phrase(voice, bar, first, lastBar, last));
        score.edition++;
        return score.phrases.size() - 1;
    }

    public boolean dropPhrase(int phrase) throws IndexOutOfBoundsException {
        requireIndex(phrase, score.phrases.size());
        Phrase dropped = score.phrases.get(phrase);
        boolean wasThere = !dropped.isGone;
        dropped.isGone = true;
        score.edition++;
        return wasThere;
    }

    public int phrases() {
        return score.phrasesThere();
    }

    public boolean allowTurn(int voice, int bar, boolean isAllowed)
            throws IllegalArgumentException, IndexOutOfBoundsException {
        requireVoice(voice);
        requireBar(bar);
        Row row = score.row(voice, bar);
        boolean before = row.isTurnAllowed;
        row.isTurnAllowed = isAllowed;
        score.edition++;
        return before;
    }

    // ---- playing

    public int addRepeat(int from, int to, int endings)
            throws IndexOutOfBoundsException, IllegalArgumentException, IllegalStateException {
        requireBar(from);
        requireBar(to);
        if (to < from) {
            throw new IllegalArgumentException("the repeat goes backwards");
        }
        requireRange(endings, 0, to - from);
        if (score.isRepeated(from, to)) {
            throw new IllegalStateException("another repeat has one of the bars");
        }
        score.repeats.add(new Repeat(from, to, endings));
        score.edition++;
        return score.repeats.size();
    }

    public int dropRepeat(int from) throws IndexOutOfBoundsException, IllegalStateException {
        requireBar(from);
        int place = score.repeatFrom(from);
        if (place == NONE) {
            throw new IllegalStateException("no repeat begins with the bar");
        }
        int to = score.repeats.get(place).to;
        score.repeats.remove(place);
        score.edition++;
        return to;
    }

    public int places() {
        return played().placeCount;
    }

    public int barAt(int place) throws IndexOutOfBoundsException {
        requireIndex(place, played().placeCount);
        return playing.placeBars[place];
    }

    public int startOf(int place) throws IndexOutOfBoundsException {
        requireIndex(place, played().placeCount);
        return playing.placeStarts[place];
    }

    public int playingTime() {
        return played().end;
    }

    public int timeByEvents(int voice) throws IllegalArgumentException {
        requireVoice(voice);
        return played().timeOfEvents(score, voice);
    }

    public int sounds() {
        return played().soundCount;
    }

    public int soundVoice(int sound) throws IndexOutOfBoundsException {
        return requiredSound(sound).voice;
    }

    public int soundStart(int sound) throws IndexOutOfBoundsException {
        return requiredSound(sound).start;
    }

    public int soundTime(int sound) throws IndexOutOfBoundsException {
        Sound asked = requiredSound(sound);
        return asked.end - asked.start;
    }

    public int soundPitch(int sound) throws IndexOutOfBoundsException {
        return requiredSound(sound).pitch;
    }

    public int loudness(int sound) throws IndexOutOfBoundsException {
        return requiredSound(sound).loud;
    }

    // ---- parts and lines

    public void setPaper(int width, int lines, int rest) throws IllegalArgumentException {
        requireRange(width, 40, 400);
        requireRange(lines, 1, 6);
        requireRange(rest, 0, 20000);
        score.paperWidth = width;
        score.pageRoom = lines;
        score.wantedRest = rest;
        score.edition++;
    }

    public int items(int voice) throws IllegalArgumentException, IllegalStateException {
        return drawnPart(voice).itemCount;
    }

    public int itemKind(int voice, int item)
            throws IllegalArgumentException, IllegalStateException, IndexOutOfBoundsException {
        Part part = drawnPart(voice);
        requireIndex(item, part.itemCount);
        return part.kinds[item];
    }

    public int itemBar(int voice, int item)
            throws IllegalArgumentException, IllegalStateException, IndexOutOfBoundsException {
        Part part = drawnPart(voice);
        requireIndex(item, part.itemCount);
        return part.firstBars[item];
    }

    public int itemBars(int voice, int item)
            throws IllegalArgumentException, IllegalStateException, IndexOutOfBoundsException {
        Part part = drawnPart(voice);
        requireIndex(item, part.itemCount);
        return part.barCounts[item];
    }

    public int cue(int voice, int item)
            throws IllegalArgumentException, IllegalStateException, IndexOutOfBoundsException {
        Part part = drawnPart(voice);
        requireIndex(item, part.itemCount);
        return part.cueVoices[item];
    }

    public int itemWidth(int voice, int item)
            throws IllegalArgumentException, IllegalStateException, IndexOutOfBoundsException {
        Part part = drawnPart(voice);
        requireIndex(item, part.itemCount);
        return part.widths[item];
    }

    public int lines(int voice) throws IllegalArgumentException, IllegalStateException {
        return drawnPart(voice).breaking.lineCount;
    }

    public int firstItem(int voice, int line)
            throws IllegalArgumentException, IllegalStateException, IndexOutOfBoundsException {
        LineBreaking breaking = drawnPart(voice).breaking;
        requireIndex(line, breaking.lineCount);
        return breaking.firstItems[line];
    }

    public int badness(int voice) throws IllegalArgumentException, IllegalStateException {
        return drawnPart(voice).breaking.least[0];
    }

    // ---- pages, turns and sheets

    public int pages(int voice) throws IllegalArgumentException, IllegalStateException {
        return drawnPart(voice).paging.pageCount;
    }

    public int pageLines(int voice, int page)
            throws IllegalArgumentException, IllegalStateException, IndexOutOfBoundsException {
        Paging paging = drawnPart(voice).paging;
        requireIndex(page, paging.pageCount);
        return paging.lineCounts[page];
    }

    public int pageOf(int voice, int bar)
            throws IllegalArgumentException, IllegalStateException, IndexOutOfBoundsException {
        Part part = drawnPart(voice);
        requireBar(bar);
        return part.paging.pageWithLine(part.lineWithBar(bar));
    }

    public int pageTurns(int voice) throws IllegalArgumentException, IllegalStateException {
        return drawnPart(voice).paging.turnCount;
    }

    public int turnBar(int voice, int turn)
            throws IllegalArgumentException, IllegalStateException, IndexOutOfBoundsException {
        Paging paging = drawnPart(voice).paging;
        requireIndex(turn, paging.turnCount);
        return paging.breakBars[paging.turnLines[turn]];
    }

    public int turnTime(int voice, int turn)
            throws IllegalArgumentException, IllegalStateException, IndexOutOfBoundsException {
        Paging paging = drawnPart(voice).paging;
        requireIndex(turn, paging.turnCount);
        return paging.breakTimes[paging.turnLines[turn]];
    }

    public int turnRest(int voice, int turn)
            throws IllegalArgumentException, IllegalStateException, IndexOutOfBoundsException {
        Paging paging = drawnPart(voice).paging;
        requireIndex(turn, paging.turnCount);
        return paging.breakRests[paging.turnLines[turn]];
    }

    public int badTurns(int voice) throws IllegalArgumentException, IllegalStateException {
        return drawnPart(voice).paging.faultyTurns();
    }

    public int sheets(int voice) throws IllegalArgumentException, IllegalStateException {
        return sheetsFor(drawnPart(voice).paging.pageCount);
    }

    public int sheetPage(int voice, int sheet, boolean isFront, boolean isLeft)
            throws IllegalArgumentException, IllegalStateException, IndexOutOfBoundsException {
        int sheetCount = sheetsFor(drawnPart(voice).paging.pageCount);
        requireIndex(sheet, sheetCount);
        int fromOutside = 2 * sheet + (isFront ? 0 : 1);
        // The front has its later page on the left, the back on the right.
        return isFront == isLeft ? PAGES_A_SHEET * sheetCount - 1 - fromOutside : fromOutside;
    }

    // ---- what the calls have in common

    private static int sheetsFor(int pageCount) {
        return (pageCount + PAGES_A_SHEET - 1) / PAGES_A_SHEET;
    }

    private static void requireRange(int value, int least, int most) {
        if (value < least || value > most) {
            throw new IllegalArgumentException("an argument is out of range");
        }
    }

    private static void requireIndex(int index, int count) {
        if (index < 0 || index >= count) {
            throw new IndexOutOfBoundsException("there is none of this number");
        }
    }

    private static void requireVoice(int voice) {
        requireRange(voice, 0, VOICES - 1);
    }

    private static void requireMetre(int beats, int unit) {
        requireRange(beats, 1, MOST_BEATS);
        if (unit != 2 && unit != 4 && unit != 8) {
            throw new IllegalArgumentException("the unit is not 2, 4 or 8");
        }
    }

    private void requireBar(int bar) {
        requireIndex(bar, score.barCount());
    }

    private Event requiredEvent(int voice, int bar, int index) {
        requireVoice(voice);
        requireBar(bar);
        Row row = score.row(voice, bar);
        requireIndex(index, row.size());
        return row.get(index);
    }

    private Sound requiredSound(int sound) {
        playing.renew(score);
        requireIndex(sound, playing.soundCount);
        return playing.soundRow.get(sound);
    }

    private Playing played() {
        playing.renew(score);
        return playing;
    }

    private Part drawnPart(int voice) {
        requireVoice(voice);
        if (!score.canBeDrawn(voice)) {
            throw new IllegalStateException("the part cannot be drawn");
        }
        if (parts[voice] == null) {
            parts[voice] = new Part(voice);
        }
        Part part = parts[voice];
        if (part.edition != score.edition) {
            part.edition = score.edition;
            playing.renew(score);
            part.layItems(score);
            part.breaking.breakItems(part.widths, part.itemCount, score.paperWidth);
            part.timeBreaks(score, playing);
            part.paging.layPages(part.breaking.lineCount, score.pageRoom);
        }
        return part;
    }

    /** A note, or a rest with the pitch 0. */
    private static final class Event {
        private static final int[] TICKS = {96, 48, 24, 12, 6, 3};

        final int ticks;
        final int form;
        int pitch;
        boolean isTied;
        int mark;
        int loud;

        Event(int pitch, int kind, int form) {
            this.pitch = pitch;
            this.form = form;
            ticks = ticksOf(kind, form);
            mark = NONE;
        }

        static int ticksOf(int kind, int form) {
            if (kind < 0 || kind >= TICKS.length) {
                return 0;
            }
            int plain = TICKS[kind];
            if (form == DOTTED) {
                return plain * 3 / 2;
            }
            return form == TRIPLET ? plain * 2 / 3 : plain;
        }

        boolean isNote() {
            return pitch > 0;
        }

        boolean isTiedTo(Event behind) {
            return isTied && behind.pitch == pitch;
        }
    }

    /** What a voice has in a bar. */
    private static final class Row {
        private static final int TRIPLETS_FILL = 6;

        private final ArrayList<Event> inOrder = new ArrayList<>();
        int ticks;
        boolean isTurnAllowed;

        int size() {
            return inOrder.size();
        }

        boolean isEmpty() {
            return inOrder.isEmpty();
        }

        Event get(int index) {
            return inOrder.get(index);
        }

        void putIn(int index, Event event) {
            inOrder.add(index, event);
            ticks += event.ticks;
        }

        void takeOut(int index) {
            ticks -= inOrder.get(index).ticks;
            inOrder.remove(index);
        }

        boolean hasWholeTriplets() {
            int run = 0;
            for (int index = 0; index < inOrder.size(); index++) {
                Event event = inOrder.get(index);
                if (event.form == TRIPLET) {
                    run += event.ticks;
                } else if (run % TRIPLETS_FILL != 0) {
                    return false;
                } else {
                    run = 0;
                }
            }
            return run % TRIPLETS_FILL == 0;
        }

        int widthOfEvents() {
            int width = 0;
            boolean wasMarked = false;
            for (int index = 0; index < inOrder.size(); index++) {
                Event event = inOrder.get(index);
                boolean isMarked = event.mark != NONE;
                width += 4 + event.ticks / 6;
                width += event.form == DOTTED ? 2 : 0;
                width += isMarked ? 3 : 0;
                width += isMarked && wasMarked ? 2 : 0;
                wasMarked = isMarked;
            }
            return width;
        }

        int widthAsCue() {
            int width = 0;
            for (int index = 0; index < inOrder.size(); index++) {
                width += 3 + inOrder.get(index).ticks / 8;
            }
            return width;
        }
    }

    /** A bar, with what all voices have in it. */
    private static final class Measure {
        private static final int WHOLE_NOTE = 96;

        int beats;
        int unit;
        int toldTempo;
        final Row[] rows;

        Measure(int beats, int unit) {
            this.beats = beats;
            this.unit = unit;
            toldTempo = NONE;
            rows = new Row[VOICES];
            for (int voice = 0; voice < VOICES; voice++) {
                rows[voice] = new Row();
            }
        }

        static int ticksOf(int beats, int unit) {
            return unit > 0 ? WHOLE_NOTE * beats / unit : 0;
        }

        int ticks() {
            return ticksOf(beats, unit);
        }

        int mostTicks() {
            int most = 0;
            for (int voice = 0; voice < VOICES; voice++) {
                most = Math.max(most, rows[voice].ticks);
            }
            return most;
        }

        boolean hasMetreOf(Measure other) {
            return beats == other.beats && unit == other.unit;
        }
    }

    /** From an event to a later one. */
    private static final class Phrase {
        private final int voice;
        private final int firstBar;
        private final int lastBar;
        private final Event first;
        private final Event last;
        boolean isGone;

        Phrase(int voice, int firstBar, Event first, int lastBar, Event last) {
            this.voice = voice;
            this.firstBar = firstBar;
            this.first = first;
            this.lastBar = lastBar;
            this.last = last;
        }

        boolean hasEnd(Event event) {
            return first == event || last == event;
        }

        boolean goesOnBehind(int voice, int bar) {
            return !isGone && this.voice == voice && firstBar <= bar && lastBar > bar;
        }
    }

    /** Bars that are played, and then once more without the endings. */
    private static final class Repeat {
        final int from;
        final int to;
        final int endings;

        Repeat(int from, int to, int endings) {
            this.from = from;
            this.to = to;
            this.endings = endings;
        }

        int lastAgain() {
            return to - endings;
        }
    }

    /** All that was told. */
    private static final class Score {
        private static final int TEMPO_AT_FIRST = 120;
        private static final int TIME_OF_TICK = 2500;
        private static final int LOUD_AT_FIRST = 2;

        final ArrayList<Measure> bars = new ArrayList<>();
        final ArrayList<Phrase> phrases = new ArrayList<>();
        final ArrayList<Repeat> repeats = new ArrayList<>();
        final int[] transpositions = new int[VOICES];
        int paperWidth = 120;
        int pageRoom = 4;
        int wantedRest = 1500;
        // Grows with each change, so that what was played or drawn is known to be old.
        int edition;

        int barCount() {
            return bars.size();
        }

        Measure measure(int bar) {
            return bars.get(bar);
        }

        Row row(int voice, int bar) {
            return bars.get(bar).rows[voice];
        }

        int tempoAt(int bar) {
            for (int ahead = bar; ahead >= 0; ahead--) {
                int told = bars.get(ahead).toldTempo;
                if (told != NONE) {
                    return told;
                }
            }
            return TEMPO_AT_FIRST;
        }

        static int timeOf(int ticks, int tempo) {
            return tempo > 0 ? ticks * TIME_OF_TICK / tempo : 0;
        }

        int timeOfBar(int bar) {
            return timeOf(bars.get(bar).ticks(), tempoAt(bar));
        }

        int ticksLeft(int voice, int bar) {
            return bars.get(bar).ticks() - row(voice, bar).ticks;
        }

        boolean isRightBar(int voice, int bar) {
            Row row = row(voice, bar);
            return row.isEmpty() || ticksLeft(voice, bar) == 0 && row.hasWholeTriplets();
        }

        boolean canBeDrawn(int voice) {
            for (int bar = 0; bar < bars.size(); bar++) {
                if (!isRightBar(voice, bar)) {
                    return false;
                }
            }
            return !bars.isEmpty();
        }

        static boolean isPitchOrRest(int pitch, int by) {
            return pitch == 0 || pitch + by >= 1 && pitch + by <= HIGHEST_PITCH;
        }

        boolean canBeWritten(int voice, int pitch) {
            return isPitchOrRest(pitch, transpositions[voice]);
        }

        boolean canBeTransposed(int voice, int by) {
            for (int bar = 0; bar < bars.size(); bar++) {
                Row row = row(voice, bar);
                for (int index = 0; index < row.size(); index++) {
                    if (!isPitchOrRest(row.get(index).pitch, by)) {
                        return false;
                    }
                }
            }
            return true;
        }

        /** Tells each event how loud a sound is that begins with it. */
        void spreadMarks() {
            for (int voice = 0; voice < VOICES; voice++) {
                int loud = LOUD_AT_FIRST;
                for (int bar = 0; bar < bars.size(); bar++) {
                    Row row = row(voice, bar);
                    for (int index = 0; index < row.size(); index++) {
                        Event event = row.get(index);
                        loud = event.mark == NONE ? loud : event.mark;
                        event.loud = loud;
                    }
                }
            }
        }

        int lowestVoiceBeside(int voice, int bar) {
            for (int other = 0; other < VOICES; other++) {
                if (other != voice && !row(other, bar).isEmpty()) {
                    return other;
                }
            }
            return NONE;
        }

        void dropPhrasesAt(Event event) {
            for (int phrase = 0; phrase < phrases.size(); phrase++) {
                if (phrases.get(phrase).hasEnd(event)) {
                    phrases.get(phrase).isGone = true;
                }
            }
        }

        int phrasesThere() {
            int there = 0;
            for (int phrase = 0; phrase < phrases.size(); phrase++) {
                there += phrases.get(phrase).isGone ? 0 : 1;
            }
            return there;
        }

        boolean isTurnForbidden(int voice, int bar) {
            if (row(voice, bar).isTurnAllowed) {
                return false;
            }
            for (int phrase = 0; phrase < phrases.size(); phrase++) {
                if (phrases.get(phrase).goesOnBehind(voice, bar)) {
                    return true;
                }
            }
            return false;
        }

        boolean isRepeated(int from, int to) {
            for (int place = 0; place < repeats.size(); place++) {
                Repeat repeat = repeats.get(place);
                if (repeat.from <= to && repeat.to >= from) {
                    return true;
                }
            }
            return false;
        }

        int repeatFrom(int bar) {
            for (int place = 0; place < repeats.size(); place++) {
                if (repeats.get(place).from == bar) {
                    return place;
                }
            }
            return NONE;
        }

        int repeatTo(int bar) {
            for (int place = 0; place < repeats.size(); place++) {
                if (repeats.get(place).to == bar) {
                    return place;
                }
            }
            return NONE;
        }

        boolean areEndingsFrom(int bar) {
            for (int place = 0; place < repeats.size(); place++) {
                Repeat repeat = repeats.get(place);
                if (repeat.endings > 0 && repeat.lastAgain() + 1 == bar) {
                    return true;
                }
            }
            return false;
        }

        boolean isNewMetre(int bar) {
            return bar == 0 || !bars.get(bar).hasMetreOf(bars.get(bar - 1));
        }

        /** Whether a rest may not go on from the bar ahead into this one. */
        boolean isRestParted(int bar) {
            return isNewMetre(bar) || bars.get(bar).toldTempo != NONE || repeatFrom(bar) != NONE
                    || areEndingsFrom(bar) || repeatTo(bar - 1) != NONE;
        }

        int widthOfSigns(int bar) {
            int width = isNewMetre(bar) ? 3 : 0;
            width += bars.get(bar).toldTempo != NONE ? 4 : 0;
            width += repeatFrom(bar) != NONE ? 2 : 0;
            width += repeatTo(bar) != NONE ? 2 : 0;
            return width;
        }
    }

    /** A note that is played, with those to which it is tied. */
    private static final class Sound {
        int voice;
        int start;
        int end;
        int pitch;
        int loud;
    }

    /** The score as it is played. */
    private static final class Playing {
        private static final int MOST_PLACES = 2 * MOST_BARS;

        final int[] placeBars = new int[MOST_PLACES];
        final int[] placeStarts = new int[MOST_PLACES];
        int placeCount;
        int end;
        // Sounds are used again by the next playing, so the row may have more than count.
        final ArrayList<Sound> soundRow = new ArrayList<>();
        int soundCount;
        private int edition = NONE;
        private final Sound[] latest = new Sound[VOICES];
        private final int[] nextIndex = new int[VOICES];
        private final int[] passedTicks = new int[VOICES];

        void renew(Score score) {
            if (edition == score.edition) {
                return;
            }
            edition = score.edition;
            layPlaces(score);
            score.spreadMarks();
            soundCount = 0;
            for (int place = 0; place < placeCount; place++) {
                playPlace(score, place);
            }
        }

        private void layPlaces(Score score) {
            placeCount = 0;
            end = 0;
            for (int bar = 0; bar < score.barCount(); bar++) {
                addPlace(score, bar);
                int ending = score.repeatTo(bar);
                if (ending != NONE) {
                    Repeat repeat = score.repeats.get(ending);
                    for (int again = repeat.from; again <= repeat.lastAgain(); again++) {
                        addPlace(score, again);
                    }
                }
            }
        }

        private void addPlace(Score score, int bar) {
            if (placeCount < MOST_PLACES) {
                placeBars[placeCount] = bar;
                placeStarts[placeCount] = end;
                placeCount++;
                end += score.timeOfBar(bar);
            }
        }

        private void playPlace(Score score, int place) {
            Measure measure = score.measure(placeBars[place]);
            int tempo = score.tempoAt(placeBars[place]);
            for (int voice = 0; voice < VOICES; voice++) {
                nextIndex[voice] = 0;
                passedTicks[voice] = 0;
            }
            for (int played = 0; played < VOICES * MOST_EVENTS; played++) {
                int voice = nextVoice(measure);
                if (voice == NONE) {
                    return;
                }
                playEvent(score, place, voice, tempo);
            }
        }

        /** The voice whose next event in the bar begins first; a tick is long enough to be told in milliseconds. */
        private int nextVoice(Measure measure) {
            int next = NONE;
            for (int voice = 0; voice < VOICES; voice++) {
                boolean isThrough = nextIndex[voice] >= measure.rows[voice].size();
                if (!isThrough && (next == NONE || passedTicks[voice] < passedTicks[next])) {
                    next = voice;
                }
            }
            return next;
        }

        private void playEvent(Score score, int place, int voice, int tempo) {
            int index = nextIndex[voice];
            Event event = score.row(voice, placeBars[place]).get(index);
            int start = placeStarts[place] + Score.timeOf(passedTicks[voice], tempo);
            passedTicks[voice] += event.ticks;
            nextIndex[voice]++;
            if (!event.isNote()) {
                return;
            }
            Event ahead = eventAhead(score, place, voice, index);
            boolean goesOn = ahead != null && ahead.isTiedTo(event) && latest[voice] != null;
            Sound sound = goesOn ? latest[voice] : newSound(voice, start, event);
            sound.end = placeStarts[place] + Score.timeOf(passedTicks[voice], tempo);
            latest[voice] = sound;
        }

        /** The event that an event is behind, if it is also played right behind it. */
        private Event eventAhead(Score score, int place, int voice, int index) {
            if (index > 0) {
                return score.row(voice, placeBars[place]).get(index - 1);
            }
            if (place == 0 || placeBars[place - 1] + 1 != placeBars[place]) {
                return null;
            }
            Row row = score.row(voice, placeBars[place - 1]);
            return row.isEmpty() ? null : row.get(row.size() - 1);
        }

        private Sound newSound(int voice, int start, Event event) {
            if (soundCount >= soundRow.size()) {
                soundRow.add(new Sound());
            }
            Sound sound = soundRow.get(soundCount);
            soundCount++;
            sound.voice = voice;
            sound.start = start;
            sound.pitch = event.pitch;
            sound.loud = event.loud;
            return sound;
        }

        int timeOfEvents(Score score, int voice) {
            int time = 0;
            for (int place = 0; place < placeCount; place++) {
                int bar = placeBars[place];
                Row row = score.row(voice, bar);
                time += row.isEmpty() ? score.timeOfBar(bar) : Score.timeOf(row.ticks, score.tempoAt(bar));
            }
            return time;
        }

        int firstTimeOf(int bar) {
            for (int place = 0; place < placeCount; place++) {
                if (placeBars[place] == bar) {
                    return placeStarts[place];
                }
            }
            return end;
        }

        int restAt(int voice, int time) {
            int restFrom = 0;
            for (int place = 0; place < soundCount; place++) {
                Sound sound = soundRow.get(place);
                if (sound.voice == voice) {
                    if (sound.start >= time) {
                        return sound.start - restFrom;
                    }
                    if (sound.end > time) {
                        return 0;
                    }
                    restFrom = sound.end;
                }
            }
            return end - restFrom;
        }
    }

    /** The part of a voice: its items, and how they are broken into lines and laid on pages. */
    private static final class Part {
        private static final int LEAST_BARS_FOR_CUE = 4;

        private final int voice;
        final int[] kinds = new int[MOST_BARS];
        final int[] firstBars = new int[MOST_BARS];
        final int[] barCounts = new int[MOST_BARS];
        final int[] cueVoices = new int[MOST_BARS];
        final int[] widths = new int[MOST_BARS];
        int itemCount;
        final LineBreaking breaking = new LineBreaking();
        final Paging paging = new Paging();
        int edition = NONE;

        Part(int voice) {
            this.voice = voice;
        }

        void layItems(Score score) {
            itemCount = 0;
            for (int bar = 0; bar < score.barCount(); bar++) {
                if (!score.row(voice, bar).isEmpty()) {
                    partCueFromRest(score);
                    addItem(BAR, bar, NONE);
                } else if (isRestLast() && !score.isRestParted(bar)) {
                    barCounts[itemCount - 1]++;
                } else {
                    addItem(REST, bar, NONE);
                }
            }
            for (int item = 0; item < itemCount; item++) {
                widths[item] = widthOf(score, item);
            }
        }

        private boolean isRestLast() {
            return itemCount > 0 && kinds[itemCount - 1] == REST;
        }

        /** Called ahead of a bar that is not empty: just there a cue is wanted. */
        private void partCueFromRest(Score score) {
            if (!isRestLast() || barCounts[itemCount - 1] < LEAST_BARS_FOR_CUE) {
                return;
            }
            int lastBar = firstBars[itemCount - 1] + barCounts[itemCount - 1] - 1;
            int cueVoice = score.lowestVoiceBeside(voice, lastBar);
            if (cueVoice != NONE) {
                barCounts[itemCount - 1]--;
                addItem(CUE, lastBar, cueVoice);
            }
        }

        private void addItem(int kind, int bar, int cueVoice) {
            if (itemCount < MOST_BARS) {
                kinds[itemCount] = kind;
                firstBars[itemCount] = bar;
                barCounts[itemCount] = 1;
                cueVoices[itemCount] = cueVoice;
                itemCount++;
            }
        }

        private int widthOf(Score score, int item) {
            int first = firstBars[item];
            int width = 0;
            for (int bar = first; bar < first + barCounts[item]; bar++) {
                width += score.widthOfSigns(bar);
            }
            if (kinds[item] == BAR) {
                return width + 10 + score.row(voice, first).widthOfEvents();
            }
            if (kinds[item] == CUE && cueVoices[item] != NONE) {
                return width + 10 + score.row(cueVoices[item], first).widthAsCue();
            }
            return width + 16 + barCounts[item];
        }

        private int firstBarOfLine(int line) {
            return firstBars[breaking.firstItems[line]];
        }

        int lineWithBar(int bar) {
            for (int line = breaking.lineCount - 1; line > 0; line--) {
                if (firstBarOfLine(line) <= bar) {
                    return line;
                }
            }
            return 0;
        }

        /** Tells the paging what a break ahead of each line would be. */
        void timeBreaks(Score score, Playing playing) {
            for (int line = 1; line < breaking.lineCount; line++) {
                int bar = firstBarOfLine(line);
                int time = playing.firstTimeOf(bar);
                int rest = playing.restAt(voice, time);
                boolean isShort = rest < score.wantedRest;
                boolean isForbidden = score.isTurnForbidden(voice, bar - 1);
                paging.tellBreak(line, bar - 1, time, rest, Paging.faultOf(isShort, isForbidden));
            }
        }
    }

    /** Breaks items into lines so that their badness together is least. */
    private static final class LineBreaking {
        private static final int TOO_WIDE = 1000000;

        final int[] firstItems = new int[MOST_BARS];
        int lineCount;
        // For each item, when a line begins with it: the badness from there on, and the item behind the line.
        final int[] least = new int[MOST_BARS + 1];
        private final int[] nextFirst = new int[MOST_BARS + 1];

        void breakItems(int[] widths, int itemCount, int paper) {
            int count = Math.min(itemCount, Math.min(widths.length, MOST_BARS));
            least[count] = 0;
            for (int first = count - 1; first >= 0; first--) {
                weighLinesFrom(first, widths, count, paper);
            }
            lineCount = 0;
            for (int item = 0; item < count && lineCount < MOST_BARS; item = nextFirst[item]) {
                firstItems[lineCount] = item;
                lineCount++;
            }
        }

        private void weighLinesFrom(int first, int[] widths, int count, int paper) {
            int width = widths[first];
            least[first] = badnessOf(width, paper, first + 1 == count) + least[first + 1];
            nextFirst[first] = first + 1;
            for (int behind = first + 2; behind <= count; behind++) {
                width += widths[behind - 1];
                if (width > paper) {
                    return;
                }
                int together = badnessOf(width, paper, behind == count) + least[behind];
                // Of lines as good as others those with more items are wanted.
                if (together <= least[first]) {
                    least[first] = together;
                    nextFirst[first] = behind;
                }
            }
        }

        private static int badnessOf(int width, int paper, boolean isLast) {
            int square = (paper - width) * (paper - width);
            if (width > paper) {
                return TOO_WIDE + square;
            }
            return isLast ? square / 4 : square;
        }
    }

    /** Lays lines on pages so that the faults of pages and turns together are least. */
    private static final class Paging {
        private static final int RIGHT = 0, LEFT = 1;
        private static final int MOST_PAGES = 2 * MOST_BARS;
        private static final int FAULT_OF_BLANK = 3000;
        private static final int FAULT_OF_SHORT_REST = 20000;
        private static final int FAULT_OF_PHRASE = 500000;
        private static final int FAULT_OF_ROOM = 100;
        // A fault counts for more than all pages, as their number matters only among equal faults.
        private static final long PAGE = 1, FAULT = 100;
        private static final long MORE_THAN_ALL = 1L << 60;

        final int[] lineCounts = new int[MOST_PAGES];
        private final int[] firstLines = new int[MOST_PAGES];
        int pageCount;
        final int[] turnLines = new int[MOST_BARS];
        int turnCount;
        // The break of a line is the one ahead of it; the line 0 has none.
        final int[] breakBars = new int[MOST_BARS];
        final int[] breakTimes = new int[MOST_BARS];
        final int[] breakRests = new int[MOST_BARS];
        private final int[] breakFaults = new int[MOST_BARS];
        // For each state of laying pages: what the rest weighs at least, and the lines of the next page for that.
        private final long[] least = new long[4 * (MOST_BARS + 1)];
        private final int[] nextLines = new int[4 * (MOST_BARS + 1)];

        static int faultOf(boolean isShort, boolean isForbidden) {
            return (isShort ? FAULT_OF_SHORT_REST : 0) + (isForbidden ? FAULT_OF_PHRASE : 0);
        }

        void tellBreak(int line, int bar, int time, int rest, int fault) {
            if (line >= 0 && line < MOST_BARS) {
                breakBars[line] = bar;
                breakTimes[line] = time;
                breakRests[line] = rest;
                breakFaults[line] = fault;
            }
        }

        private static int state(int line, int side, boolean isBehindBlank) {
            return 4 * line + 2 * side + (isBehindBlank ? 1 : 0);
        }

        /** Whether a page with lines, of which this is the first, has a turn ahead of it. */
        private static boolean hasTurn(int line, int side, boolean isBehindBlank) {
            return line > 0 && (isBehindBlank || side == LEFT);
        }

        void layPages(int lineCount, int room) {
            int count = Math.min(lineCount, MOST_BARS);
            least[state(count, RIGHT, false)] = 0;
            least[state(count, LEFT, false)] = 0;
            for (int line = count - 1; line >= 0; line--) {
                // Those behind a blank page come first, as the others may put one.
                weighPagesFrom(line, RIGHT, true, count, room);
                weighPagesFrom(line, LEFT, true, count, room);
                weighPagesFrom(line, RIGHT, false, count, room);
                weighPagesFrom(line, LEFT, false, count, room);
            }
            takeLeastPages(count);
        }

        private void weighPagesFrom(int line, int side, boolean isBehindBlank, int count, int room) {
            int here = state(line, side, isBehindBlank);
            int turnFault = hasTurn(line, side, isBehindBlank) ? breakFaults[line] : 0;
            least[here] = MORE_THAN_ALL;
            // From the fullest page down, so that of equals the one with most lines stays.
            for (int lines = Math.min(room, count - line); lines > 0; lines--) {
                int spare = line + lines < count ? room - lines : 0;
                long weight = FAULT * (turnFault + FAULT_OF_ROOM * spare * spare) + PAGE
                        + least[state(line + lines, LEFT - side, false)];
                if (weight < least[here]) {
                    least[here] = weight;
                    nextLines[here] = lines;
                }
            }
            if (!isBehindBlank) {
                long weight = FAULT * FAULT_OF_BLANK + PAGE + least[state(line, LEFT - side, true)];
                if (weight < least[here]) {
                    least[here] = weight;
                    nextLines[here] = 0;
                }
            }
        }

        private void takeLeastPages(int count) {
            int line = 0;
            boolean isBehindBlank = false;
            pageCount = 0;
            turnCount = 0;
            while (line < count && pageCount < MOST_PAGES) {
                int side = pageCount % 2;
                int lines = nextLines[state(line, side, isBehindBlank)];
                if (lines > 0 && hasTurn(line, side, isBehindBlank) && turnCount < MOST_BARS) {
                    turnLines[turnCount] = line;
                    turnCount++;
                }
                lineCounts[pageCount] = lines;
                firstLines[pageCount] = line;
                pageCount++;
                line += lines;
                isBehindBlank = lines == 0;
            }
        }

        int pageWithLine(int line) {
            for (int page = 0; page < pageCount; page++) {
                if (line < firstLines[page] + lineCounts[page]) {
                    return page;
                }
            }
            return NONE;
        }

        int faultyTurns() {
            int faulty = 0;
            for (int turn = 0; turn < turnCount; turn++) {
                faulty += breakFaults[turnLines[turn]] > 0 ? 1 : 0;
            }
            return faulty;
        }
    }
}
