import java.util.Objects;

/** What the tests share: counting wrong answers, texts and maps to begin with, and a picture of a map. */
final class Checks {
    /** A call that answers or throws. */
    interface Call {
        Object answer();
    }

    private static int wrong = 0;
    private static int checked = 0;

    private Checks() {
    }

    static void due(String call, Object want, Object got) {
        checked++;
        if (!Objects.equals(want, got)) {
            wrong++;
            System.out.println(call + " answered " + got + ", due is " + want);
        }
    }

    /** The class must be just the one that is due: the machine throws classes below these. */
    static void dueThrow(String call, Class<? extends RuntimeException> want, Call toCall) {
        due(call, "throws " + want.getName(), outcomeOf(toCall));
    }

    static void dueRefusal(String call, int reason, int detail, FlagHues x, Call toCall) {
        dueThrow(call, UnsupportedOperationException.class, toCall);
        due(call + ", then refusal(false)", reason, x.refusal(false));
        due(call + ", then refusal(true)", detail, x.refusal(true));
    }

    /** Checks that the call throws and leaves all that changes can change as it was. */
    static void dueThrowWithoutChange(String call, Class<? extends RuntimeException> want, FlagHues x, Call toCall) {
        String before = pictureOf(x);
        dueThrow(call, want, toCall);
        due("the map after " + call, before, pictureOf(x));
    }

    static String outcomeOf(Call call) {
        try {
            return String.valueOf(call.answer());
        } catch (RuntimeException e) {
            return "throws " + e.getClass().getName();
        }
    }

    static void end() {
        System.out.println(checked + " answers checked, " + wrong + " of them not as due");
        if (wrong != 0 || checked == 0) {
            System.exit(1);
        }
    }

    /** A new map with countries of these sizes. */
    static FlagHues withSizes(int... sizes) {
        FlagHues x = new FlagHues();
        for (int size : sizes) {
            x.country(size);
        }
        return x;
    }

    /** A new map with that many countries of size 1, and a border between each two. */
    static FlagHues complete(int many) {
        FlagHues x = new FlagHues();
        for (int i = 0; i < many; i++) {
            x.country(1);
            for (int j = 0; j < i; j++) {
                x.border(i, j);
            }
        }
        return x;
    }

    static void type(FlagHues x, String text) {
        for (int i = 0; i < text.length(); i++) {
            x.append(text.charAt(i));
        }
    }

    static int read(FlagHues x, String text) {
        type(x, text);
        return x.read();
    }

    static String lineOf(FlagHues x, int country) {
        StringBuilder line = new StringBuilder();
        int length = x.line(country);
        for (int i = 0; i < length; i++) {
            line.append(x.character(i));
        }
        return line.toString();
    }

    /** All that changes can change, and how many changes can be undone. */
    static String pictureOf(FlagHues x) {
        StringBuilder picture = new StringBuilder();
        for (int what = 0; what <= 12; what++) {
            picture.append(what == 11 ? "" : x.account(what) + " ");
        }
        int countries = x.account(0);
        for (int country = 0; country < countries; country++) {
            picture.append("| ");
            for (int what = 0; what <= 6; what++) {
                picture.append(x.countryOf(country, what)).append(' ');
            }
            for (int other = 0; other < country; other++) {
                picture.append(x.hasBorder(country, other) ? 'b' : '.');
            }
        }
        for (int hue = 0; hue < 5; hue++) {
            picture.append("# ");
            for (int what = 0; what <= 3; what++) {
                picture.append(x.hueOf(hue, what)).append(' ');
            }
        }
        return picture.toString();
    }
}
