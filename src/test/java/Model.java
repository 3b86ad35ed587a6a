import java.util.ArrayList;
import java.util.Arrays;
import java.util.Comparator;
import java.util.List;

/**
 * The document once more, as slowly and as literally as it can be told: nothing is kept of what can be derived, and
 * lines and pages are the best of all that there can be, each of them tried.
 */
public final class Model {
    private static final class Ev {
        int pitch, kind, form, mark = -1;
        boolean tied;
    }

    private static final class BarTold {
        int beats, unit, tempo = -1;
        List<List<Ev>> voices = new ArrayList<>();
        boolean[] allowed = new boolean[4];
    }

    private record Slur(int voice, Ev first, Ev last, boolean[] gone) { }

    private record Rep(int from, int to, int endings) { }

    private record Place(int bar, int start) { }

    /** An event as it is played. */
    private record Played(int place, int bar, int index, Ev event, int start, int end) { }

    private record Tone(int voice, int start, int end, int pitch, int loud) { }

    private record Thing(int kind, int bar, int bars, int cue, int width) { }

    private record Turn(int bar, int time, int rest, boolean isBad) { }

    private final List<BarTold> bars = new ArrayList<>();
    private final List<Slur> slurs = new ArrayList<>();
    private final List<Rep> reps = new ArrayList<>();
    private final int[] by = new int[4];
    private int width = 120, room = 4, wanted = 1500;

    private static void arg(boolean isFine) {
        if (!isFine) {
            throw new IllegalArgumentException();
        }
    }

    private static void there(boolean isThere) {
        if (!isThere) {
            throw new IndexOutOfBoundsException();
        }
    }

    private static void state(boolean isFine) {
        if (!isFine) {
            throw new IllegalStateException();
        }
    }

    private static boolean in(int x, int from, int to) {
        return from <= x && x <= to;
    }

    private void voiceIn(int voice) {
        arg(in(voice, 0, 3));
    }

    private BarTold theBar(int bar) {
        there(in(bar, 0, bars.size() - 1));
        return bars.get(bar);
    }

    private List<Ev> row(int voice, int bar) {
        return theBar(bar).voices.get(voice);
    }

    private Ev ev(int voice, int bar, int index) {
        there(in(index, 0, row(voice, bar).size() - 1));
        return row(voice, bar).get(index);
    }

    static int ticks(int kind, int form) {
        int plain = kind == 5 ? 3 : 96 >> kind;
        return switch (form) {
            case 0 -> plain;
            case 1 -> plain + plain / 2;
            default -> plain - plain / 3;
        };
    }

    private static int ticks(Ev ev) {
        return ticks(ev.kind, ev.form);
    }

    private int filled(int voice, int bar) {
        return row(voice, bar).stream().mapToInt(Model::ticks).sum();
    }

    private static boolean metre(int beats, int unit) {
        return in(beats, 1, 9) && List.of(2, 4, 8).contains(unit);
    }

    public int addBar(int beats, int unit) {
        arg(metre(beats, unit));
        state(bars.size() < 24);
        BarTold told = new BarTold();
        told.beats = beats;
        told.unit = unit;
        for (int voice = 0; voice < 4; voice++) {
            told.voices.add(new ArrayList<>());
        }
        bars.add(told);
        return bars.size() - 1;
    }

    public int setMetre(int bar, int beats, int unit) {
        int before = length(bar);
        arg(metre(beats, unit));
        for (int voice = 0; voice < 4; voice++) {
            state(filled(voice, bar) <= 96 * beats / unit);
        }
        theBar(bar).beats = beats;
        theBar(bar).unit = unit;
        return before;
    }

    public int setTempo(int bar, int tempo) {
        int before = theBar(bar).tempo;
        arg(tempo == -1 || in(tempo, 30, 240));
        theBar(bar).tempo = tempo;
        return before;
    }

    public int bars() {
        return bars.size();
    }

    public int length(int bar) {
        return 96 * theBar(bar).beats / theBar(bar).unit;
    }

    public int tempo(int bar) {
        theBar(bar);
        int tempo = 120;
        for (int b = 0; b <= bar; b++) {
            tempo = bars.get(b).tempo == -1 ? tempo : bars.get(b).tempo;
        }
        return tempo;
    }

    private int take(int ticks, int bar) {
        return ticks * 2500 / tempo(bar);
    }

    public int time(int bar) {
        return take(length(bar), bar);
    }

    private static boolean writable(int pitch, int by) {
        return pitch == 0 || in(pitch + by, 1, 127);
    }

    public int insert(int voice, int bar, int index, int pitch, int kind, int form) {
        voiceIn(voice);
        arg(in(pitch, 0, 127) && in(kind, 0, 5) && in(form, 0, 2) && !(kind == 5 && form == 1));
        there(in(index, 0, row(voice, bar).size()));
        state(row(voice, bar).size() < 16 && ticks(kind, form) <= left(voice, bar) && writable(pitch, by[voice]));
        Ev ev = new Ev();
        ev.pitch = pitch;
        ev.kind = kind;
        ev.form = form;
        row(voice, bar).add(index, ev);
        return left(voice, bar);
    }

    public int remove(int voice, int bar, int index) {
        voiceIn(voice);
        Ev ev = ev(voice, bar, index);
        row(voice, bar).remove(index);
        for (Slur slur : slurs) {
            slur.gone[0] |= slur.first == ev || slur.last == ev;
        }
        return ticks(ev);
    }

    public int setPitch(int voice, int bar, int index, int pitch) {
        voiceIn(voice);
        arg(in(pitch, 0, 127));
        Ev ev = ev(voice, bar, index);
        state(writable(pitch, by[voice]));
        int before = ev.pitch;
        ev.pitch = pitch;
        if (pitch == 0) {
            ev.tied = false;
        }
        return before;
    }

    public boolean setTie(int voice, int bar, int index, boolean isTied) {
        voiceIn(voice);
        Ev ev = ev(voice, bar, index);
        state(ev.pitch != 0);
        boolean before = ev.tied;
        ev.tied = isTied;
        return before;
    }

    public int setMark(int voice, int bar, int index, int mark) {
        voiceIn(voice);
        arg(in(mark, -1, 5));
        Ev ev = ev(voice, bar, index);
        int before = ev.mark;
        ev.mark = mark;
        return before;
    }

    public int transpose(int voice, int by) {
        voiceIn(voice);
        arg(in(by, -12, 12));
        for (BarTold told : bars) {
            for (Ev ev : told.voices.get(voice)) {
                state(writable(ev.pitch, by));
            }
        }
        int before = this.by[voice];
        this.by[voice] = by;
        return before;
    }

    public int events(int voice, int bar) {
        voiceIn(voice);
        return row(voice, bar).size();
    }

    public int left(int voice, int bar) {
        voiceIn(voice);
        return length(bar) - filled(voice, bar);
    }

    public boolean isRight(int voice, int bar) {
        voiceIn(voice);
        List<Ev> row = row(voice, bar);
        if (row.isEmpty()) {
            return true;
        }
        for (int from = 0; from < row.size(); from++) {
            boolean isFirst = row.get(from).form == 2 && (from == 0 || row.get(from - 1).form != 2);
            int run = 0;
            for (int i = from; isFirst && i < row.size() && row.get(i).form == 2; i++) {
                run += ticks(row.get(i));
            }
            if (run % 6 != 0) {
                return false;
            }
        }
        return filled(voice, bar) == length(bar);
    }

    public int written(int voice, int bar, int index) {
        voiceIn(voice);
        Ev ev = ev(voice, bar, index);
        return ev.pitch == 0 ? -1 : ev.pitch + by[voice];
    }

    public int addPhrase(int voice, int bar, int index, int lastBar, int lastIndex) {
        voiceIn(voice);
        Ev first = ev(voice, bar, index);
        Ev last = ev(voice, lastBar, lastIndex);
        state(100 * lastBar + lastIndex > 100 * bar + index && slurs.size() < 20);
        slurs.add(new Slur(voice, first, last, new boolean[1]));
        return slurs.size() - 1;
    }

    public boolean dropPhrase(int phrase) {
        there(in(phrase, 0, slurs.size() - 1));
        boolean wasThere = !slurs.get(phrase).gone[0];
        slurs.get(phrase).gone[0] = true;
        return wasThere;
    }

    public int phrases() {
        return (int) slurs.stream().filter(slur -> !slur.gone[0]).count();
    }

    public boolean allowTurn(int voice, int bar, boolean isAllowed) {
        voiceIn(voice);
        boolean before = theBar(bar).allowed[voice];
        theBar(bar).allowed[voice] = isAllowed;
        return before;
    }

    public int addRepeat(int from, int to, int endings) {
        theBar(from);
        theBar(to);
        arg(from <= to && in(endings, 0, to - from));
        for (int bar = from; bar <= to; bar++) {
            for (Rep rep : reps) {
                state(!in(bar, rep.from, rep.to));
            }
        }
        reps.add(new Rep(from, to, endings));
        return reps.size();
    }

    public int dropRepeat(int from) {
        theBar(from);
        for (Rep rep : reps) {
            if (rep.from == from) {
                reps.remove(rep);
                return rep.to;
            }
        }
        throw new IllegalStateException();
    }

    private List<Place> playing() {
        List<Integer> order = new ArrayList<>();
        for (int bar = 0; bar < bars.size(); bar++) {
            order.add(bar);
            for (Rep rep : reps) {
                for (int again = rep.from; bar == rep.to && again < rep.to - rep.endings + 1; again++) {
                    order.add(again);
                }
            }
        }
        List<Place> places = new ArrayList<>();
        int start = 0;
        for (int bar : order) {
            places.add(new Place(bar, start));
            start += time(bar);
        }
        return places;
    }

    public int places() {
        return playing().size();
    }

    public int barAt(int place) {
        there(in(place, 0, places() - 1));
        return playing().get(place).bar;
    }

    public int startOf(int place) {
        there(in(place, 0, places() - 1));
        return playing().get(place).start;
    }

    public int playingTime() {
        return playing().stream().mapToInt(place -> time(place.bar)).sum();
    }

    public int timeByEvents(int voice) {
        voiceIn(voice);
        return playing().stream().mapToInt(place -> row(voice, place.bar).isEmpty()
                ? time(place.bar) : take(filled(voice, place.bar), place.bar)).sum();
    }

    private Ev behind(int voice, int bar, int index) {
        if (index + 1 < row(voice, bar).size()) {
            return row(voice, bar).get(index + 1);
        }
        return bar + 1 < bars.size() && !row(voice, bar + 1).isEmpty() ? row(voice, bar + 1).get(0) : null;
    }

    private int loud(int voice, int bar, int index) {
        int loud = 2;
        for (int b = 0; b <= bar; b++) {
            for (int i = 0; i < row(voice, b).size() && (b < bar || i <= index); i++) {
                loud = row(voice, b).get(i).mark == -1 ? loud : row(voice, b).get(i).mark;
            }
        }
        return loud;
    }

    private List<Tone> tonesOf(int voice) {
        List<Played> notes = new ArrayList<>();
        List<Place> places = playing();
        for (int p = 0; p < places.size(); p++) {
            int passed = 0;
            for (int i = 0; i < row(voice, places.get(p).bar).size(); i++) {
                int bar = places.get(p).bar;
                Ev ev = row(voice, bar).get(i);
                int start = places.get(p).start + take(passed, bar);
                passed += ticks(ev);
                if (ev.pitch > 0) {
                    notes.add(new Played(p, bar, i, ev, start, places.get(p).start + take(passed, bar)));
                }
            }
        }
        List<Tone> tones = new ArrayList<>();
        for (int n = 0; n < notes.size();) {
            Played first = notes.get(n);
            int last = n;
            while (last + 1 < notes.size() && goesOn(voice, notes.get(last), notes.get(last + 1))) {
                last++;
            }
            tones.add(new Tone(voice, first.start, notes.get(last).end, first.event.pitch,
                    loud(voice, first.bar, first.index)));
            n = last + 1;
        }
        return tones;
    }

    private boolean goesOn(int voice, Played note, Played next) {
        Ev behind = behind(voice, note.bar, note.index);
        boolean counts = note.event.tied && behind != null && behind.pitch == note.event.pitch;
        return counts && behind == next.event && next.place <= note.place + 1;
    }

    private List<Tone> tones() {
        List<Tone> tones = new ArrayList<>();
        for (int voice = 0; voice < 4; voice++) {
            tones.addAll(tonesOf(voice));
        }
        tones.sort(Comparator.comparingInt(Tone::start).thenComparingInt(Tone::voice));
        return tones;
    }

    public int sounds() {
        return tones().size();
    }

    private Tone tone(int sound) {
        List<Tone> tones = tones();
        there(in(sound, 0, tones.size() - 1));
        return tones.get(sound);
    }

    public int soundVoice(int sound) {
        return tone(sound).voice;
    }

    public int soundStart(int sound) {
        return tone(sound).start;
    }

    public int soundTime(int sound) {
        return tone(sound).end - tone(sound).start;
    }

    public int soundPitch(int sound) {
        return tone(sound).pitch;
    }

    public int loudness(int sound) {
        return tone(sound).loud;
    }

    public void setPaper(int width, int lines, int rest) {
        arg(in(width, 40, 400) && in(lines, 1, 6) && in(rest, 0, 20000));
        this.width = width;
        room = lines;
        wanted = rest;
    }

    private boolean empty(int voice, int bar) {
        return row(voice, bar).isEmpty();
    }

    private boolean newMetre(int bar) {
        return bar == 0 || theBar(bar).beats != theBar(bar - 1).beats || theBar(bar).unit != theBar(bar - 1).unit;
    }

    private boolean parts(int bar) {
        boolean byRepeat = false;
        for (Rep rep : reps) {
            byRepeat |= rep.from == bar || rep.to == bar - 1 || rep.endings > 0 && rep.to - rep.endings + 1 == bar;
        }
        return byRepeat || newMetre(bar) || theBar(bar).tempo != -1;
    }

    private int signs(int from, int count) {
        int wide = 0;
        for (int bar = from; bar < from + count; bar++) {
            wide += newMetre(bar) ? 3 : 0;
            wide += theBar(bar).tempo != -1 ? 4 : 0;
            for (Rep rep : reps) {
                wide += rep.from == bar ? 2 : 0;
                wide += rep.to == bar ? 2 : 0;
            }
        }
        return wide;
    }

    private int wide(int voice, int bar) {
        List<Ev> row = row(voice, bar);
        int wide = 10;
        for (int i = 0; i < row.size(); i++) {
            wide += 4 + ticks(row.get(i)) / 6 + (row.get(i).form == 1 ? 2 : 0) + (row.get(i).mark >= 0 ? 3 : 0);
            wide += i > 0 && row.get(i).mark >= 0 && row.get(i - 1).mark >= 0 ? 2 : 0;
        }
        return wide;
    }

    private List<Thing> part(int voice) {
        voiceIn(voice);
        state(!bars.isEmpty());
        for (int bar = 0; bar < bars.size(); bar++) {
            state(isRight(voice, bar));
        }
        List<Thing> part = new ArrayList<>();
        for (int bar = 0; bar < bars.size();) {
            if (!empty(voice, bar)) {
                part.add(new Thing(0, bar, 1, -1, signs(bar, 1) + wide(voice, bar)));
                bar++;
                continue;
            }
            int behind = bar + 1;
            while (behind < bars.size() && empty(voice, behind) && !parts(behind)) {
                behind++;
            }
            int cue = -1;
            if (behind - bar >= 4 && behind < bars.size() && !empty(voice, behind)) {
                for (int other = 3; other >= 0; other--) {
                    cue = other != voice && !empty(other, behind - 1) ? other : cue;
                }
            }
            int bars = behind - bar - (cue >= 0 ? 1 : 0);
            part.add(new Thing(1, bar, bars, -1, signs(bar, bars) + 16 + bars));
            if (cue >= 0) {
                int wide = row(cue, behind - 1).stream().mapToInt(ev -> 3 + ticks(ev) / 8).sum();
                part.add(new Thing(2, behind - 1, 1, cue, signs(behind - 1, 1) + 10 + wide));
            }
            bar = behind;
        }
        return part;
    }

    public int items(int voice) {
        return part(voice).size();
    }

    private Thing thing(int voice, int item) {
        List<Thing> part = part(voice);
        there(in(item, 0, part.size() - 1));
        return part.get(item);
    }

    public int itemKind(int voice, int item) {
        return thing(voice, item).kind;
    }

    public int itemBar(int voice, int item) {
        return thing(voice, item).bar;
    }

    public int itemBars(int voice, int item) {
        return thing(voice, item).bars;
    }

    public int cue(int voice, int item) {
        return thing(voice, item).cue;
    }

    public int itemWidth(int voice, int item) {
        return thing(voice, item).width;
    }

    /** Up to so many items or lines all ways are tried; with more those from each on, and the best of them kept. */
    private static final int MOST_TRIED = 10;

    /** The best one so far, told by its badness and the numbers of items. */
    private long leastBadness;
    private List<Integer> bestLines;

    private long badOf(List<Thing> part, int item, int size) {
        long wide = 0;
        for (int i = item; i < item + size; i++) {
            wide += part.get(i).width;
        }
        if (size > 1 && wide > width) {
            return -1;
        }
        long square = (width - wide) * (width - wide);
        return wide > width ? 1000000 + square : item + size == part.size() ? square / 4 : square;
    }

    private void tryLines(List<Thing> part, int item, long badness, List<Integer> sizes) {
        if (item == part.size()) {
            if (bestLines == null || badness < leastBadness || badness == leastBadness && isMore(sizes, bestLines)) {
                leastBadness = badness;
                bestLines = new ArrayList<>(sizes);
            }
            return;
        }
        for (int size = 1; item + size <= part.size() && badOf(part, item, size) >= 0; size++) {
            sizes.add(size);
            tryLines(part, item + size, badness + badOf(part, item, size), sizes);
            sizes.remove(sizes.size() - 1);
        }
    }

    private void keepBestLines(List<Thing> part) {
        List<List<Integer>> best = new ArrayList<>();
        long[] least = new long[part.size() + 1];
        for (int i = 0; i <= part.size(); i++) {
            best.add(new ArrayList<>());
        }
        for (int item = part.size() - 1; item >= 0; item--) {
            for (int size = 1; item + size <= part.size() && badOf(part, item, size) >= 0; size++) {
                List<Integer> sizes = new ArrayList<>(List.of(size));
                sizes.addAll(best.get(item + size));
                long badness = badOf(part, item, size) + least[item + size];
                boolean isBetter = badness < least[item] || badness == least[item] && isMore(sizes, best.get(item));
                if (best.get(item).isEmpty() || isBetter) {
                    best.set(item, sizes);
                    least[item] = badness;
                }
            }
        }
        bestLines = best.get(0);
        leastBadness = least[0];
    }

    private static boolean isMore(List<Integer> some, List<Integer> other) {
        return Arrays.compare(some.toArray(new Integer[0]), other.toArray(new Integer[0])) > 0;
    }

    /** The first item of each line. */
    private List<Integer> firsts(int voice) {
        bestLines = null;
        List<Thing> part = part(voice);
        if (part.size() <= MOST_TRIED) {
            tryLines(part, 0, 0, new ArrayList<>());
        } else {
            keepBestLines(part);
        }
        List<Integer> firsts = new ArrayList<>();
        int item = 0;
        for (int size : bestLines) {
            firsts.add(item);
            item += size;
        }
        return firsts;
    }

    public int lines(int voice) {
        return firsts(voice).size();
    }

    public int firstItem(int voice, int line) {
        List<Integer> firsts = firsts(voice);
        there(in(line, 0, firsts.size() - 1));
        return firsts.get(line);
    }

    public int badness(int voice) {
        firsts(voice);
        return (int) leastBadness;
    }

    private Turn turnBehind(int voice, int bar) {
        int time = playing().stream().filter(place -> place.bar == bar + 1).findFirst().get().start;
        int from = 0;
        int to = playingTime();
        boolean isWithin = false;
        List<Tone> tones = tonesOf(voice);
        for (Tone tone : tones) {
            isWithin |= tone.start < time && tone.end > time;
            from = tone.start < time ? tone.end : from;
        }
        for (int t = tones.size() - 1; t >= 0; t--) {
            to = tones.get(t).start >= time ? tones.get(t).start : to;
        }
        int rest = isWithin ? 0 : to - from;
        boolean isIn = isInPhrase(voice, bar) && !theBar(bar).allowed[voice];
        return new Turn(bar, time, rest, rest < wanted || isIn);
    }

    private int barOf(int voice, Ev ev) {
        for (int bar = 0; bar < bars.size(); bar++) {
            if (row(voice, bar).contains(ev)) {
                return bar;
            }
        }
        throw new AssertionError("no such event");
    }

    private boolean isInPhrase(int voice, int bar) {
        boolean isIn = false;
        for (Slur slur : slurs) {
            isIn |= !slur.gone[0] && slur.voice == voice && barOf(voice, slur.first) <= bar
                    && barOf(voice, slur.last) > bar;
        }
        return isIn;
    }

    private static boolean isTurnAt(List<Integer> pages, int page) {
        int ahead = page - 1;
        boolean isBlankBetween = ahead >= 0 && pages.get(ahead) == 0;
        ahead -= isBlankBetween ? 1 : 0;
        return ahead >= 0 && (isBlankBetween || ahead % 2 == 0);
    }

    private int faultOf(int voice, int bar) {
        Turn turn = turnBehind(voice, bar);
        boolean isIn = isInPhrase(voice, bar) && !theBar(bar).allowed[voice];
        return (turn.rest < wanted ? 20000 : 0) + (isIn ? 500000 : 0);
    }

    private long leastFault;
    private List<Integer> bestPages;

    private static boolean isBetter(long fault, List<Integer> pages, long otherFault, List<Integer> other) {
        if (fault != otherFault) {
            return fault < otherFault;
        }
        return pages.size() != other.size() ? pages.size() < other.size() : isMore(pages, other);
    }

    /** What a last page adds, as it is put behind the others ahead of the line. */
    private long added(int[] breakFaults, int line, List<Integer> pages) {
        int lines = pages.get(pages.size() - 1);
        if (lines == 0) {
            return 3000;
        }
        int spare = line + lines < breakFaults.length ? room - lines : 0;
        return 100L * spare * spare + (isTurnAt(pages, pages.size() - 1) ? breakFaults[line] : 0);
    }

    private void tryPages(int[] breakFaults, int line, long fault, List<Integer> pages) {
        int count = breakFaults.length;
        if (line == count) {
            if (bestPages == null || isBetter(fault, pages, leastFault, bestPages)) {
                leastFault = fault;
                bestPages = new ArrayList<>(pages);
            }
            return;
        }
        boolean isBehindBlank = !pages.isEmpty() && pages.get(pages.size() - 1) == 0;
        for (int lines = Math.min(room, count - line); lines >= (isBehindBlank ? 1 : 0); lines--) {
            pages.add(lines);
            tryPages(breakFaults, line + lines, fault + added(breakFaults, line, pages), pages);
            pages.remove(pages.size() - 1);
        }
    }

    /**
     * Keeps, for all lines up to one, the best pages of those that end alike: as many in number, and the last one
     * blank or not. Those that are best up to a line may not be so in the end, but among such the rest is the same.
     */
    private void keepBestPages(int[] breakFaults) {
        int count = breakFaults.length;
        List<List<List<Integer>>> kept = new ArrayList<>();
        List<List<Long>> faults = new ArrayList<>();
        for (int line = 0; line <= count; line++) {
            kept.add(new ArrayList<>());
            faults.add(new ArrayList<>());
        }
        keep(kept.get(0), faults.get(0), new ArrayList<>(), 0);
        for (int line = 0; line < count; line++) {
            for (int k = 0; k < kept.get(line).size(); k++) {
                List<Integer> pages = kept.get(line).get(k);
                boolean isBehindBlank = !pages.isEmpty() && pages.get(pages.size() - 1) == 0;
                for (int lines = isBehindBlank ? 1 : 0; lines <= Math.min(room, count - line); lines++) {
                    List<Integer> more = new ArrayList<>(pages);
                    more.add(lines);
                    long fault = faults.get(line).get(k) + added(breakFaults, line, more);
                    keep(kept.get(line + lines), faults.get(line + lines), more, fault);
                }
            }
        }
        for (int k = 0; k < kept.get(count).size(); k++) {
            long fault = faults.get(count).get(k);
            if (bestPages == null || isBetter(fault, kept.get(count).get(k), leastFault, bestPages)) {
                bestPages = kept.get(count).get(k);
                leastFault = fault;
            }
        }
    }

    private static void keep(List<List<Integer>> kept, List<Long> faults, List<Integer> pages, long fault) {
        for (int k = 0; k < kept.size(); k++) {
            List<Integer> other = kept.get(k);
            boolean endBlank = !pages.isEmpty() && pages.get(pages.size() - 1) == 0;
            boolean otherBlank = !other.isEmpty() && other.get(other.size() - 1) == 0;
            if (other.size() == pages.size() && endBlank == otherBlank) {
                if (isBetter(fault, pages, faults.get(k), other)) {
                    kept.set(k, pages);
                    faults.set(k, fault);
                }
                return;
            }
        }
        kept.add(pages);
        faults.add(fault);
    }

    private int lastBarAheadOfLine(int voice, List<Integer> firsts, int line) {
        return part(voice).get(firsts.get(line)).bar - 1;
    }

    private List<Integer> paged(int voice) {
        List<Integer> firsts = firsts(voice);
        int[] breakFaults = new int[firsts.size()];
        for (int line = 1; line < firsts.size(); line++) {
            breakFaults[line] = faultOf(voice, lastBarAheadOfLine(voice, firsts, line));
        }
        bestPages = null;
        if (breakFaults.length <= MOST_TRIED) {
            tryPages(breakFaults, 0, 0, new ArrayList<>());
        } else {
            keepBestPages(breakFaults);
        }
        return bestPages;
    }

    public int pages(int voice) {
        return paged(voice).size();
    }

    public int pageLines(int voice, int page) {
        List<Integer> pages = paged(voice);
        there(in(page, 0, pages.size() - 1));
        return pages.get(page);
    }

    public int pageOf(int voice, int bar) {
        List<Thing> part = part(voice);
        theBar(bar);
        List<Integer> firsts = firsts(voice);
        List<Integer> pages = paged(voice);
        int line = 0;
        for (int page = 0; page < pages.size(); page++) {
            line += pages.get(page);
            int behind = line == firsts.size() ? bars.size() : part.get(firsts.get(line)).bar;
            if (pages.get(page) > 0 && bar < behind) {
                return page;
            }
        }
        throw new AssertionError("a bar on no page");
    }

    private List<Turn> turns(int voice) {
        List<Integer> firsts = firsts(voice);
        List<Integer> pages = paged(voice);
        List<Turn> turns = new ArrayList<>();
        int line = 0;
        for (int page = 0; page < pages.size(); page++) {
            if (pages.get(page) > 0 && isTurnAt(pages, page)) {
                turns.add(turnBehind(voice, lastBarAheadOfLine(voice, firsts, line)));
            }
            line += pages.get(page);
        }
        return turns;
    }

    private Turn turn(int voice, int turn) {
        List<Turn> turns = turns(voice);
        there(in(turn, 0, turns.size() - 1));
        return turns.get(turn);
    }

    public int pageTurns(int voice) {
        return turns(voice).size();
    }

    public int turnBar(int voice, int turn) {
        return turn(voice, turn).bar;
    }

    public int turnTime(int voice, int turn) {
        return turn(voice, turn).time;
    }

    public int turnRest(int voice, int turn) {
        return turn(voice, turn).rest;
    }

    public int badTurns(int voice) {
        return (int) turns(voice).stream().filter(Turn::isBad).count();
    }

    public int sheets(int voice) {
        int sheets = 0;
        for (int pages = pages(voice); pages > 0; pages -= 4) {
            sheets++;
        }
        return sheets;
    }

    public int sheetPage(int voice, int sheet, boolean isFront, boolean isLeft) {
        int p = 4 * sheets(voice);
        there(in(sheet, 0, p / 4 - 1));
        if (isFront) {
            return isLeft ? p - 1 - 2 * sheet : 2 * sheet;
        }
        return isLeft ? 2 * sheet + 1 : p - 2 - 2 * sheet;
    }
}
