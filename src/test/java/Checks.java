import java.lang.reflect.InvocationTargetException;
import java.lang.reflect.Method;
import java.util.Arrays;
import java.util.Comparator;
import java.util.Objects;
import java.util.function.Function;
import java.util.function.Supplier;

/** What the tests share: counting wrong answers, texts and maps to begin with, and pictures of a map. */
final class Checks {
    /** A call that answers or throws. */
    interface Call {
        Object answer();
    }

    private static final int MOST_UNDOS = 9;

    private static int wrong = 0;
    private static int checked = 0;
    private static String test = "";

    private Checks() {
    }

    // Running tests.

    /** Runs every method of the class whose name begins with "promise", so that none is left out by mistake. */
    static void runTestsOf(Class<?> tests) {
        Method[] methods = tests.getDeclaredMethods();
        Arrays.sort(methods, Comparator.comparing(Method::getName));
        int many = 0;
        for (Method method : methods) {
            if (method.getName().startsWith("promise")) {
                run(method);
                many++;
            }
        }
        System.out.println(many + " tests");
        end();
    }

    private static void run(Method method) {
        test = method.getName() + ": ";
        try {
            method.setAccessible(true);
            method.invoke(null);
        } catch (InvocationTargetException e) {
            due("the test", "comes to its end", "ended by " + e.getCause());
        } catch (IllegalAccessException e) {
            due("the test", "can be run", "ended by " + e);
        }
    }

    static void end() {
        System.out.println(checked + " answers checked, " + wrong + " of them not as due");
        if (wrong != 0 || checked == 0) {
            System.exit(1);
        }
    }

    // Answers that are due.

    static void due(String call, Object want, Object got) {
        checked++;
        if (!Objects.equals(want, got)) {
            wrong++;
            System.out.println(test + call + " answered " + got + ", due is " + want);
        }
    }

    /** The class must be just the one that is due: the machine throws classes below these. */
    static void dueThrow(String call, Class<? extends RuntimeException> want, Call toCall) {
        due(call, "throws " + want.getName(), outcomeOf(toCall));
    }

    static void dueRefusal(String call, int reason, int detail, FlagHues x, Call toCall) {
        dueThrow(call, UnsupportedOperationException.class, toCall);
        dueReason("after " + call, reason, detail, x);
    }

    static void dueReason(String call, int reason, int detail, FlagHues x) {
        due(call + ", refusal(false)", reason, x.refusal(false));
        due(call + ", refusal(true)", detail, x.refusal(true));
    }

    /** Checks that the call throws and leaves all that changes can change as it was. */
    static void dueThrowWithoutChange(String call, Class<? extends RuntimeException> want, FlagHues x, Call toCall) {
        String before = pictureOf(x);
        dueThrow(call, want, toCall);
        due("the map after " + call, before, pictureOf(x));
    }

    /** Checks that the call throws and leaves everything that later calls can see, the reason too. */
    static void dueThrowLeavingAll(String call, Class<? extends RuntimeException> want, Supplier<FlagHues> maker,
            Function<FlagHues, Object> toCall) {
        FlagHues x = maker.get();
        dueThrow(call, want, () -> toCall.apply(x));
        dueLeft(call, true, maker, toCall);
    }

    /** Checks that the call is refused, and leaves everything that later calls can see but the reason. */
    static void dueRefusalLeavingAll(String call, int reason, int detail, Supplier<FlagHues> maker,
            Function<FlagHues, Object> toCall) {
        FlagHues x = maker.get();
        dueRefusal(call, reason, detail, x, () -> toCall.apply(x));
        dueLeft(call, false, maker, toCall);
    }

    /** Checks that the call answers, and is no more than a question. */
    static void dueLeavingAll(String call, Object want, Supplier<FlagHues> maker, Function<FlagHues, Object> toCall) {
        due(call, want, toCall.apply(maker.get()));
        dueLeft(call, true, maker, toCall);
    }

    private static void dueLeft(String call, boolean withReason, Supplier<FlagHues> maker,
            Function<FlagHues, Object> toCall) {
        Supplier<FlagHues> called = () -> {
            FlagHues x = maker.get();
            outcomeOf(() -> toCall.apply(x));
            return x;
        };
        String[] want = wholeOf(maker, withReason).split("\n");
        String[] got = wholeOf(called, withReason).split("\n");
        int row = Math.max(0, Arrays.mismatch(want, got));
        due(call + " left: row " + row, want[row], got[row]);
    }

    static String outcomeOf(Call call) {
        try {
            return String.valueOf(call.answer());
        } catch (RuntimeException e) {
            return "throws " + e.getClass().getName();
        }
    }

    // Maps to begin with.

    /** A new map with countries of these sizes. */
    static FlagHues withSizes(int... sizes) {
        FlagHues x = new FlagHues();
        for (int size : sizes) {
            x.country(size);
        }
        return x;
    }

    /** A new map with seven countries, the first of these sizes, the others of size 1. */
    static FlagHues full(int... sizes) {
        FlagHues x = withSizes(sizes);
        for (int country = sizes.length; country < 7; country++) {
            x.country(1);
        }
        return x;
    }

    /** A new map with that many countries of size 1, and a border between each two. */
    static FlagHues complete(int many) {
        FlagHues x = new FlagHues();
        for (int i = 0; i < many; i++) {
            x.country(1);
            for (int j = 0; j < i; j++) {
                x.border(i, j);
            }
        }
        return x;
    }

    /**
     * Gives a map whatever a call that throws must leave: a snapshot that differs from it, a change to undo, an error
     * position, a reason, a line and an input.
     */
    static FlagHues marked(FlagHues x) {
        x.save();
        x.pots(4, 1);
        type(x, "f;?");
        outcomeOf(x::read);
        if (x.account(0) > 0) {
            outcomeOf(() -> x.border(0, 0));
            x.line(0);
        } else {
            outcomeOf(x::back);
        }
        type(x, "h5;f");
        return x;
    }

    static void type(FlagHues x, String text) {
        for (int i = 0; i < text.length(); i++) {
            x.append(text.charAt(i));
        }
    }

    static int read(FlagHues x, String text) {
        type(x, text);
        return x.read();
    }

    /** A text of that many characters: orders to fill in, and the last ones given. */
    static String padded(int characters, String end) {
        StringBuilder text = new StringBuilder((characters - end.length()) % 2 == 0 ? "" : "h3;");
        while (text.length() + end.length() < characters) {
            text.append("f;");
        }
        return text.append(end).toString();
    }

    // Pictures.

    static String lineOf(FlagHues x, int country) {
        int length = x.line(country);
        return writtenIn(x).substring(0, length);
    }

    /** The line as it is, without writing one. */
    static String writtenIn(FlagHues x) {
        StringBuilder line = new StringBuilder();
        for (int index = 0; index < 20; index++) {
            int at = index;
            String outcome = outcomeOf(() -> x.character(at));
            line.append(outcome.length() == 1 ? outcome : "");
        }
        return line.toString();
    }

    static String stepsOf(FlagHues x) {
        StringBuilder steps = new StringBuilder();
        int many = x.account(5);
        for (int place = 0; place < many; place++) {
            steps.append(x.step(place));
        }
        return steps.toString();
    }

    /** All that changes can change, and how many changes can be undone. */
    static String pictureOf(FlagHues x) {
        StringBuilder picture = new StringBuilder();
        for (int what = 0; what <= 12; what++) {
            picture.append(what == 11 ? "" : x.account(what) + " ");
        }
        int countries = x.account(0);
        for (int country = 0; country < countries; country++) {
            picture.append("| ");
            for (int what = 0; what <= 6; what++) {
                picture.append(x.countryOf(country, what)).append(' ');
            }
            for (int other = 0; other < country; other++) {
                picture.append(x.hasBorder(country, other) ? 'b' : '.');
            }
        }
        for (int hue = 0; hue < 5; hue++) {
            picture.append("# ");
            for (int what = 0; what <= 3; what++) {
                picture.append(x.hueOf(hue, what)).append(' ');
            }
        }
        return picture.toString();
    }

    /**
     * Everything that calls can see of what the maker makes: now, after each undo, after restore and after read. Each
     * is looked at in an object of its own, as an object answers at most 512 calls.
     */
    private static String wholeOf(Supplier<FlagHues> maker, boolean withReason) {
        FlagHues now = maker.get();
        StringBuilder whole = new StringBuilder();
        whole.append("line ").append(writtenIn(now)).append(", input ").append(now.account(11));
        whole.append(", error ").append(now.errorPosition());
        if (withReason) {
            whole.append(", reason ").append(outcomeOf(() -> now.refusal(false)));
            whole.append(", detail ").append(outcomeOf(() -> now.refusal(true)));
        }
        for (int undos = 0; undos <= MOST_UNDOS; undos++) {
            FlagHues undone = maker.get();
            whole.append("\nundo");
            for (int i = 0; i < undos; i++) {
                whole.append(' ').append(outcomeOf(undone::undo));
            }
            whole.append(" map ").append(pictureOf(undone));
        }
        FlagHues restored = maker.get();
        whole.append("\nrestore ").append(outcomeOf(restored::restore)).append(' ').append(pictureOf(restored));
        FlagHues carriedOut = maker.get();
        whole.append("\nread ").append(outcomeOf(carriedOut::read)).append(' ').append(carriedOut.errorPosition());
        return whole.append(' ').append(pictureOf(carriedOut)).toString();
    }
}
