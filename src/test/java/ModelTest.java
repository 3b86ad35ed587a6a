import java.lang.reflect.InvocationTargetException;
import java.lang.reflect.Method;
import java.lang.reflect.Parameter;
import java.util.ArrayList;
import java.util.Comparator;
import java.util.List;
import java.util.Random;

/** Random runs of calls, each on the class and on the model; the answers and the exceptions must be the same. */
public final class ModelTest {
    private static final Check CHECK = new Check("ModelTest");
    private static final int RUNS = 1500;
    private static final int MOST_CALLS = 512;

    private final Random random;
    private final int run;
    private final int mostBars;
    private final ScoreHouse house = new ScoreHouse();
    private final Model model = new Model();
    private int calls;

    private ModelTest(int run) {
        this.run = run;
        // Always the same seeds: a test must answer the same each time.
        random = new Random(run);
        mostBars = run % 10 == 0 ? 24 : 5 + run % 9;
    }

    public static void main(String[] args) {
        List<Method> telling = new ArrayList<>();
        List<Method> asking = new ArrayList<>();
        for (Method method : ScoreHouse.class.getDeclaredMethods()) {
            if (java.lang.reflect.Modifier.isPublic(method.getModifiers())) {
                boolean tells = method.getName().matches("(add|set|drop|allow).*|insert|remove|transpose");
                (tells ? telling : asking).add(method);
            }
        }
        telling.sort(Comparator.comparing(Method::getName));
        asking.sort(Comparator.comparing(Method::getName));
        for (int run = 0; run < RUNS; run++) {
            new ModelTest(run).play(telling, asking);
        }
        CHECK.end();
    }

    private void play(List<Method> telling, List<Method> asking) {
        int bars = 1 + random.nextInt(mostBars);
        boolean isPlain = random.nextInt(3) == 0;
        tellPaper();
        int metre = random.nextInt(8);
        for (int bar = 0; bar < bars; bar++) {
            call("addBar", metre == 0 ? 1 + random.nextInt(9) : 2, metre == 2 ? 2 << random.nextInt(3) : 4);
        }
        int changing = 1 + random.nextInt(4);
        for (int voice = 0; voice < 4; voice++) {
            boolean isFull = random.nextBoolean();
            for (int bar = 0; bar < bars && calls < 200; bar++) {
                isFull ^= random.nextInt(5) < changing;
                if (isFull) {
                    fill(voice, bar, isPlain);
                }
            }
        }
        for (int told = random.nextInt(60); told > 0; told--) {
            callGently(telling);
        }
        while (calls < 470) {
            if (random.nextInt(40) == 0) {
                tellPaper();
            } else if (random.nextInt(10) == 0) {
                callGently(telling);
            } else {
                call(asking.get(random.nextInt(asking.size())));
            }
        }
        while (calls < MOST_CALLS) {
            List<Method> some = random.nextBoolean() ? telling : asking;
            call(some.get(random.nextInt(some.size())));
        }
    }

    /** Mostly so narrow that there are many lines and pages. */
    private void tellPaper() {
        boolean isNarrow = random.nextInt(4) > 0;
        call("setPaper", isNarrow ? 40 + random.nextInt(40) : 40 + random.nextInt(361),
                isNarrow ? 1 + random.nextInt(3) : 1 + random.nextInt(6),
                random.nextInt(4) == 0 ? random.nextInt(20001) : random.nextInt(1200));
    }

    /** Mostly such calls as leave right bars right, so that parts can be drawn. */
    private void callGently(List<Method> telling) {
        Method method = telling.get(random.nextInt(telling.size()));
        boolean isRough = method.getName().matches("insert|remove|setMetre|setTempo|addBar|setPaper");
        if (!isRough || random.nextInt(20) == 0) {
            call(method);
        }
    }

    /** Fills a bar so that it is right, mostly with few pitches, so that ties count. */
    private void fill(int voice, int bar, boolean isPlain) {
        int longest = isPlain ? 0 : random.nextInt(3);
        for (int tries = 0; tries < 6 && model.left(voice, bar) > 0 && !isPlain; tries++) {
            int form = random.nextInt(3);
            int kind = Math.min(form == 1 ? 4 : 5, longest + random.nextInt(3));
            // Three triplets of a kind fill twice the ticks of a plain one, which is a multiple of 6.
            int needed = form == 0 ? Model.ticks(kind, 0) : form == 1 ? Model.ticks(kind, 1) : 2 * Model.ticks(kind, 0);
            if (needed <= model.left(voice, bar) && model.events(voice, bar) < 10) {
                for (int event = 0; event < (form == 2 ? 3 : 1); event++) {
                    addEvent(voice, bar, kind, form, isPlain);
                }
            }
        }
        for (int kind = 0; kind < 6; kind++) {
            while (model.left(voice, bar) >= Model.ticks(kind, 0) && model.events(voice, bar) < 16) {
                addEvent(voice, bar, kind, 0, isPlain);
            }
        }
    }

    private void addEvent(int voice, int bar, int kind, int form, boolean isPlain) {
        int event = model.events(voice, bar);
        int pitch = random.nextInt(4) == 0 ? 0 : 60 + random.nextInt(2);
        call("insert", voice, bar, event, pitch, kind, form);
        if (pitch > 0 && random.nextInt(3) == 0) {
            call("setTie", voice, bar, event, 1);
        }
        if (!isPlain && random.nextInt(6) == 0) {
            call("setMark", voice, bar, event, random.nextInt(6));
        }
    }

    private void call(String name, int... arguments) {
        for (Method method : ScoreHouse.class.getDeclaredMethods()) {
            if (method.getName().equals(name)) {
                Object[] given = new Object[arguments.length];
                for (int i = 0; i < given.length; i++) {
                    boolean isTruth = method.getParameterTypes()[i] == boolean.class;
                    given[i] = isTruth ? (Object) (arguments[i] == 1) : (Object) arguments[i];
                }
                call(method, given);
            }
        }
    }

    private void call(Method method) {
        Parameter[] parameters = method.getParameters();
        Object[] given = new Object[parameters.length];
        int voice = random.nextInt(4);
        for (int tries = 0; tries < 6 && !canBeDrawn(voice); tries++) {
            voice = random.nextInt(4);
        }
        int bar = model.bars() == 0 ? 0 : random.nextInt(model.bars());
        for (int i = 0; i < given.length; i++) {
            given[i] = argument(method.getName(), parameters[i], voice, bar);
        }
        if (parameters.length > 0 && random.nextInt(20) == 0) {
            int odd = random.nextInt(parameters.length);
            int[] values = {-2, -1, 0, 3, 4, 13, 16, 24, 127, 128, Integer.MAX_VALUE, Integer.MIN_VALUE};
            if (parameters[odd].getType() == int.class) {
                given[odd] = values[random.nextInt(values.length)];
            }
        }
        call(method, given);
    }

    private Object argument(String method, Parameter parameter, int voice, int bar) {
        int bars = Math.max(1, model.bars());
        switch (parameter.getName()) {
            case "voice": return voice;
            case "bar": return bar;
            case "index": return indexOfEvent(method, voice, bar);
            case "lastIndex": return random.nextInt(3);
            case "lastBar": return bar + random.nextInt(bars - bar);
            case "from": return random.nextInt(bars);
            case "to": return random.nextInt(3) == 0 ? random.nextInt(bars) : Math.min(bars - 1, random.nextInt(6));
            case "endings": return random.nextInt(3);
            case "beats": return 1 + random.nextInt(9);
            case "unit": return 2 << random.nextInt(3);
            case "tempo": return random.nextInt(3) == 0 ? -1 : 30 + random.nextInt(211);
            case "pitch": return random.nextInt(3) == 0 ? random.nextInt(128) : random.nextInt(2) * 60;
            case "kind": return random.nextInt(6);
            case "form": return random.nextInt(3);
            case "mark": return random.nextInt(7) - 1;
            case "by": return random.nextInt(25) - 12;
            case "phrase": return random.nextInt(5);
            case "place": return random.nextInt(1 + model.places());
            case "sound": return random.nextInt(1 + model.sounds());
            case "width": return random.nextBoolean() ? 40 + random.nextInt(60) : 40 + random.nextInt(361);
            case "lines": return 1 + random.nextInt(6);
            case "rest": return random.nextInt(3) == 0 ? random.nextInt(20001) : random.nextInt(1500);
            case "item": return random.nextInt(1 + (canBeDrawn(voice) ? model.items(voice) : 1));
            case "line": return random.nextInt(1 + (canBeDrawn(voice) ? model.lines(voice) : 1));
            case "page": return random.nextInt(1 + (canBeDrawn(voice) ? model.pages(voice) : 1));
            case "turn": return random.nextInt(1 + (canBeDrawn(voice) ? model.pageTurns(voice) : 1));
            case "sheet": return random.nextInt(1 + (canBeDrawn(voice) ? model.sheets(voice) : 1));
            default:
                if (parameter.getType() == boolean.class) {
                    return random.nextBoolean();
                }
                throw new AssertionError(method + " " + parameter);
        }
    }

    private boolean canBeDrawn(int voice) {
        boolean isRight = model.bars() > 0;
        for (int bar = 0; bar < model.bars(); bar++) {
            isRight &= model.isRight(voice, bar);
        }
        return isRight;
    }

    private int indexOfEvent(String method, int voice, int bar) {
        int events = model.events(voice, bar);
        boolean isBehind = events == 0 || method.equals("insert") || random.nextInt(10) == 0;
        return random.nextInt(isBehind ? events + 1 : events);
    }

    private void call(Method method, Object[] given) {
        calls++;
        String got = answer(house, method, given);
        String due;
        try {
            due = answer(model, Model.class.getMethod(method.getName(), method.getParameterTypes()), given);
        } catch (NoSuchMethodException missing) {
            due = "no such method";
        }
        String what = "run " + run + ", call " + calls + ": " + method.getName() + java.util.Arrays.toString(given);
        CHECK.same(what + ": " + got + " for " + due, got.equals(due) ? 1 : 0, 1);
    }

    private static String answer(Object object, Method method, Object[] given) {
        try {
            return String.valueOf(method.invoke(object, given));
        } catch (InvocationTargetException thrown) {
            boolean isThrown = object instanceof Model || Check.isThrownByTheClass(thrown.getCause());
            return (isThrown ? "" : "library: ") + thrown.getCause().getClass().getName();
        } catch (IllegalAccessException refused) {
            return refused.toString();
        }
    }
}
