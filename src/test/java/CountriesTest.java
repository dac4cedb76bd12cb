/** Promises 1 to 9: a new object, countries, borders, hues and pots. */
public final class CountriesTest {
    private static final Class<IllegalArgumentException> ILLEGAL = IllegalArgumentException.class;
    private static final Class<IndexOutOfBoundsException> OUTSIDE = IndexOutOfBoundsException.class;

    public static void main(String[] args) {
        Checks.runTestsOf(CountriesTest.class);
    }

    private static void promise1NewObject() {
        FlagHues x = new FlagHues();
        for (int what = 0; what <= 12; what++) {
            int want = what == 2 ? 3 : what == 6 ? 45 : 0;
            Checks.due("account(" + what + ") of a new map", want, x.account(what));
        }
        for (int hue = 0; hue < 5; hue++) {
            Checks.due("the pots of hue " + hue + " at first", 9, x.hueOf(hue, 0));
            Checks.due("whether hue " + hue + " can be used at first", hue < 3 ? 1 : 0, x.hueOf(hue, 1));
            Checks.due("the countries in hue " + hue + " at first", 0, x.hueOf(hue, 2));
            Checks.due("the used pots of hue " + hue + " at first", 0, x.hueOf(hue, 3));
        }
        Checks.due("isWell() of a new map", true, x.isWell());
        Checks.due("errorPosition() of a new map", -1, x.errorPosition());
    }

    private static void promise2Country() {
        FlagHues x = new FlagHues();
        for (int size : new int[] {0, -1, 10, Integer.MIN_VALUE, Integer.MAX_VALUE}) {
            Checks.dueThrowWithoutChange("country(" + size + ")", ILLEGAL, x, () -> x.country(size));
        }
        int[] sizes = {1, 9, 5, 2, 3, 4, 6};
        for (int i = 0; i < 7; i++) {
            Checks.due("country(" + sizes[i] + ")", i, x.country(sizes[i]));
            Checks.due("its size", sizes[i], x.countryOf(i, 0));
            Checks.due("its neighbours", 0, x.countryOf(i, 2));
        }
        Checks.dueThrow("refusal before one", java.util.NoSuchElementException.class, () -> x.refusal(false));
        Checks.dueThrow("an eighth country of size 0", ILLEGAL, () -> x.country(0));
        Checks.dueRefusal("an eighth country", 1, 7, x, () -> x.country(1));
        Checks.due("the countries then", 7, x.account(0));
    }

    private static void promise3Border() {
        FlagHues x = Checks.withSizes(1, 1, 1);
        Checks.dueThrow("border(3, 0)", OUTSIDE, () -> x.border(3, 0));
        Checks.dueThrow("border(0, 3)", OUTSIDE, () -> x.border(0, 3));
        Checks.dueThrow("border(-1, -1)", OUTSIDE, () -> x.border(-1, -1));
        Checks.dueThrowWithoutChange("border(7, 7)", OUTSIDE, x, () -> x.border(7, 7));
        Checks.due("border(0, 1)", 1, x.border(0, 1));
        Checks.due("border(2, 1)", 2, x.border(2, 1));
        Checks.due("both have it", true, x.hasBorder(1, 2) && x.hasBorder(2, 1));
        Checks.dueRefusal("border(2, 2)", 5, 2, x, () -> x.border(2, 2));
        Checks.dueRefusal("border(0, 1) again", 6, 1, x, () -> x.border(0, 1));
        Checks.dueRefusal("border(1, 0) again", 6, 0, x, () -> x.border(1, 0));
        x.paint(0, 2);
        x.paint(2, 2);
        Checks.dueRefusal("a border within hue 2", 7, 2, x, () -> x.border(2, 0));
        Checks.dueThrowWithoutChange("a border within hue 2", UnsupportedOperationException.class, x,
                () -> x.border(0, 2));
        Checks.dueRefusal("a border with itself, painted", 5, 0, x, () -> x.border(0, 0));
        x.back();
        Checks.due("a border when one is painted", 3, x.border(0, 2));
        FlagHues y = Checks.withSizes(1, 1, 1);
        Checks.due("a border when none is painted", 1, y.border(0, 2));
        y.paint(0, 0);
        y.paint(1, 1);
        Checks.due("a border of two hues", 2, y.border(0, 1));
    }

    private static void promise4Erase() {
        FlagHues x = Checks.complete(4);
        Checks.dueThrow("erase(4, 0)", OUTSIDE, () -> x.erase(4, 0));
        Checks.dueThrow("erase(0, -1)", OUTSIDE, () -> x.erase(0, -1));
        Checks.dueThrowWithoutChange("erase(4, 4)", OUTSIDE, x, () -> x.erase(4, 4));
        Checks.due("erase(3, 1)", 5, x.erase(3, 1));
        Checks.due("neither has it", false, x.hasBorder(1, 3) || x.hasBorder(3, 1));
        Checks.due("the others stay", true, x.hasBorder(0, 1) && x.hasBorder(2, 3) && x.hasBorder(1, 2));
        Checks.dueRefusal("erase(2, 2)", 5, 2, x, () -> x.erase(2, 2));
        Checks.dueRefusal("erase(3, 1) again", 6, 1, x, () -> x.erase(3, 1));
        Checks.dueRefusal("erase(1, 3) again", 6, 3, x, () -> x.erase(1, 3));
        x.paint(0, 0);
        x.paint(1, 1);
        Checks.due("erase(0, 1) of painted ones", 4, x.erase(0, 1));
    }

    private static void promise5HasBorder() {
        FlagHues x = Checks.withSizes(1, 2, 3);
        x.border(2, 0);
        Checks.due("hasBorder(0, 2)", true, x.hasBorder(0, 2));
        Checks.due("hasBorder(2, 0)", true, x.hasBorder(2, 0));
        Checks.due("hasBorder(0, 1)", false, x.hasBorder(0, 1));
        Checks.due("hasBorder(2, 2)", false, x.hasBorder(2, 2));
        Checks.dueThrow("hasBorder(3, 0)", OUTSIDE, () -> x.hasBorder(3, 0));
        Checks.dueThrow("hasBorder(0, 3)", OUTSIDE, () -> x.hasBorder(0, 3));
        Checks.dueThrow("hasBorder(-1, 0)", OUTSIDE, () -> x.hasBorder(-1, 0));
        Checks.dueThrow("hasBorder(0, 32)", OUTSIDE, () -> x.hasBorder(0, 32));
    }

    private static void promise6CountryOf() {
        FlagHues x = Checks.withSizes(4, 7, 2, 9);
        x.border(0, 1);
        x.border(0, 2);
        int[] bare = {4, -1, 2, 3, -1, 0, -1};
        for (int what = 0; what <= 6; what++) {
            Checks.due("countryOf(0, " + what + ")", bare[what], x.countryOf(0, what));
        }
        x.paint(3, 1);
        Checks.due("without pots of hue 1", 2, x.countryOf(0, 3));
        x.paint(1, 2);
        Checks.due("beside hue 2 too", 1, x.countryOf(0, 3));
        x.paint(0, 0);
        x.wish(0, 4, 6);
        int[] painted = {4, 0, 2, 0, 4, 6, 2};
        for (int what = 0; what <= 6; what++) {
            Checks.due("countryOf(0, " + what + ") when painted", painted[what], x.countryOf(0, what));
        }
        Checks.due("the place of the first step", 0, x.countryOf(3, 6));
        Checks.dueThrow("countryOf(0, 7)", ILLEGAL, () -> x.countryOf(0, 7));
        Checks.dueThrow("countryOf(0, -1)", ILLEGAL, () -> x.countryOf(0, -1));
        Checks.dueThrow("countryOf(4, 0)", OUTSIDE, () -> x.countryOf(4, 0));
        Checks.dueThrow("countryOf(-1, 7)", OUTSIDE, () -> x.countryOf(-1, 7));
        Checks.dueThrow("countryOf(7, -1)", OUTSIDE, () -> x.countryOf(7, -1));
    }

    private static void promise7Hues() {
        FlagHues x = Checks.withSizes(1, 1);
        for (int many : new int[] {0, 6, -1, Integer.MAX_VALUE}) {
            Checks.dueThrowWithoutChange("hues(" + many + ")", ILLEGAL, x, () -> x.hues(many));
        }
        Checks.due("hues(5)", 3, x.hues(5));
        Checks.due("account(2)", 5, x.account(2));
        Checks.due("hues(1)", 5, x.hues(1));
        Checks.due("hues(1) again", 1, x.hues(1));
        Checks.due("the changes", 5, x.account(12));
        Checks.due("free hues", 1, x.countryOf(0, 3));
    }

    private static void promise7HuesThatAreNeeded() {
        FlagHues x = Checks.withSizes(1, 1, 1, 1);
        x.hues(4);
        x.paint(3, 3);
        x.paint(2, 1);
        x.paint(1, 2);
        Checks.dueThrow("hues(0) with painted ones", ILLEGAL, () -> x.hues(0));
        Checks.dueRefusal("hues(3)", 9, 3, x, () -> x.hues(3));
        Checks.dueRefusal("hues(2)", 9, 1, x, () -> x.hues(2));
        Checks.dueThrowWithoutChange("hues(1)", UnsupportedOperationException.class, x, () -> x.hues(1));
        Checks.due("hues(4)", 4, x.hues(4));
        x.undo();
        Checks.due("hues(5)", 4, x.hues(5));
        FlagHues y = Checks.withSizes(1, 1, 1, 1, 1, 1, 1);
        Checks.due("hues(2) of a full map", 3, y.hues(2));
        y.paint(0, 1);
        Checks.dueRefusal("hues(1) when country 0 has hue 1", 9, 0, y, () -> y.hues(1));
    }

    private static void promise8Pots() {
        FlagHues x = Checks.withSizes(9);
        Checks.dueThrow("pots(5, 0)", OUTSIDE, () -> x.pots(5, 0));
        Checks.dueThrow("pots(-1, 1)", OUTSIDE, () -> x.pots(-1, 1));
        Checks.dueThrow("pots(0, 0)", ILLEGAL, () -> x.pots(0, 0));
        Checks.dueThrow("pots(0, -1)", ILLEGAL, () -> x.pots(0, -1));
        Checks.dueThrowWithoutChange("pots(4, 51)", ILLEGAL, x, () -> x.pots(4, 51));
        Checks.due("pots(4, 1) of a hue that cannot be used", 10, x.pots(4, 1));
        Checks.due("pots(0, 50)", 59, x.pots(0, 50));
        Checks.due("pots(0, 40)", 99, x.pots(0, 40));
        Checks.due("pots(0, 1) when full", 99, x.pots(0, 1));
        Checks.due("pots(1, 50)", 59, x.pots(1, 50));
        Checks.due("pots(1, 41), too many", 99, x.pots(1, 41));
        Checks.due("the pots of hue 2", 9, x.hueOf(2, 0));
        Checks.due("each is a change", 7, x.account(12));
    }

    private static void promise9HueOf() {
        FlagHues x = Checks.withSizes(2, 3, 4);
        x.paint(0, 1);
        x.paint(1, 1);
        x.back();
        x.paint(2, 1);
        Checks.dueRefusal("nine pots of hue 1 are used", 4, 3, x, () -> x.paint(1, 1));
        Checks.due("hueOf(1, 0)", 0, x.hueOf(1, 0));
        Checks.due("hueOf(1, 1)", 1, x.hueOf(1, 1));
        Checks.due("hueOf(1, 2)", 2, x.hueOf(1, 2));
        Checks.due("hueOf(1, 3)", 9, x.hueOf(1, 3));
        Checks.due("hueOf(0, 2)", 0, x.hueOf(0, 2));
        Checks.due("hueOf(2, 1)", 1, x.hueOf(2, 1));
        Checks.due("hueOf(3, 1)", 0, x.hueOf(3, 1));
        Checks.dueThrow("hueOf(5, 4)", OUTSIDE, () -> x.hueOf(5, 4));
        Checks.dueThrow("hueOf(-1, 0)", OUTSIDE, () -> x.hueOf(-1, 0));
        Checks.dueThrow("hueOf(4, 4)", ILLEGAL, () -> x.hueOf(4, 4));
        Checks.dueThrow("hueOf(0, -1)", ILLEGAL, () -> x.hueOf(0, -1));
    }
}
