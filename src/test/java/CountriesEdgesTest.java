/** The edges of promises 1 to 9; each test stands below the words of the document that it holds to. */
public final class CountriesEdgesTest {
    private static final Class<IllegalArgumentException> ILLEGAL = IllegalArgumentException.class;
    private static final Class<IndexOutOfBoundsException> OUTSIDE = IndexOutOfBoundsException.class;
    private static final Class<UnsupportedOperationException> REFUSED = UnsupportedOperationException.class;
    private static final int LOW = Integer.MIN_VALUE;
    private static final int HIGH = Integer.MAX_VALUE;

    public static void main(String[] args) {
        Checks.runTestsOf(CountriesEdgesTest.class);
    }

    // "Creates a map without countries, with 3 hues that can be used."
    private static void promise1NoCountryYet() {
        Checks.due("account(0)", 0, new FlagHues().account(0));
        Checks.dueThrow("countryOf(0, 0)", OUTSIDE, () -> new FlagHues().countryOf(0, 0));
        Checks.dueThrow("hasBorder(0, 0)", OUTSIDE, () -> new FlagHues().hasBorder(0, 0));
    }

    // "There are the hues 0 to 4, of which the first 3 can be used at first"
    private static void promise1TheFirstThreeHuesCanBeUsed() {
        FlagHues x = Checks.withSizes(1, 1, 1);
        for (int hue = 0; hue < 5; hue++) {
            Checks.due("hueOf(" + hue + ", 1)", hue < 3 ? 1 : 0, x.hueOf(hue, 1));
            Checks.due("bars(0, " + hue + ")", hue < 3 ? 0 : 10, x.bars(0, hue));
        }
        Checks.due("paint(2, 2)", 1, x.paint(2, 2));
        Checks.dueRefusal("paint(1, 3)", 10, 3, x, () -> x.paint(1, 3));
    }

    // "Each has pots of paint from 0 to 99, at first 9"
    private static void promise1NinePotsOfEachHue() {
        FlagHues x = new FlagHues();
        for (int hue = 0; hue < 5; hue++) {
            Checks.due("hueOf(" + hue + ", 0)", 9, x.hueOf(hue, 0));
            Checks.due("hueOf(" + hue + ", 3)", 0, x.hueOf(hue, 3));
        }
    }

    private static void promise1ObjectsShareNothing() {
        FlagHues x = Checks.marked(Checks.complete(3));
        FlagHues y = new FlagHues();
        y.hues(5);
        y.pots(1, 50);
        Checks.due("the countries of the other", 3, x.account(0));
        Checks.due("the hues of the other", 3, x.account(2));
        Checks.due("the pots of the other", 9, x.hueOf(1, 0));
        Checks.due("the input", 0, y.account(11));
        Checks.due("the changes", 2, y.account(12));
        Checks.due("the error position", -1, y.errorPosition());
        Checks.dueThrow("refusal(false)", java.util.NoSuchElementException.class, () -> y.refusal(false));
        Checks.dueThrow("character(0)", OUTSIDE, () -> y.character(0));
        Checks.dueThrow("restore()", IllegalStateException.class, y::restore);
        y.country(8);
        y.line(0);
        Checks.type(y, "x;x");
        Checks.due("the line of the other", "0:-(1,2)", Checks.writtenIn(x));
        Checks.due("the input of the other", 2, x.read());
        Checks.due("the line", "0:-()", Checks.writtenIn(y));
    }

    // "each with a size from 1 to 9"
    private static void promise2SmallestAndLargestSize() {
        FlagHues x = new FlagHues();
        Checks.due("country(1)", 0, x.country(1));
        Checks.due("country(9)", 1, x.country(9));
        Checks.due("the smallest", 1, x.countryOf(0, 0));
        Checks.due("the largest", 9, x.countryOf(1, 0));
    }

    // "Throws IllegalArgumentException if the size is out of range"
    private static void promise2SizesOutOfRange() {
        for (int size : new int[] {0, 10, -1, LOW, HIGH}) {
            Checks.dueThrowLeavingAll("country(" + size + ")", ILLEGAL,
                    () -> Checks.marked(Checks.withSizes(1, 9)), x -> x.country(size));
            Checks.dueThrowLeavingAll("country(" + size + ") as the first", ILLEGAL, FlagHues::new,
                    x -> x.country(size));
        }
    }

    // "At most 7 countries are kept, numbered from 0"
    private static void promise2SevenAreNumberedFrom0To6() {
        FlagHues x = new FlagHues();
        for (int number = 0; number < 7; number++) {
            Checks.due("the number", number, x.country(number + 2));
            Checks.due("the countries", number + 1, x.account(0));
        }
        for (int number = 0; number < 7; number++) {
            Checks.due("the size of " + number, number + 2, x.countryOf(number, 0));
        }
    }

    // "Throws UnsupportedOperationException if it is refused for reason 1"; "1, there are 7 countries: 7"
    private static void promise2TheEighthIsRefused() {
        Checks.dueRefusalLeavingAll("an eighth country", 1, 7, () -> Checks.marked(Checks.full(9)), x -> x.country(1));
        Checks.dueRefusalLeavingAll("an eighth of size 9", 1, 7, () -> Checks.marked(Checks.full()),
                x -> x.country(9));
        FlagHues six = Checks.withSizes(1, 1, 1, 1, 1, 1);
        Checks.due("a seventh", 6, six.country(1));
    }

    // "If several exceptions apply, the one that is documented first is thrown."
    private static void promise2TheSizeBeforeReason1() {
        for (int size : new int[] {0, 10}) {
            Checks.dueThrowLeavingAll("an eighth country of size " + size, ILLEGAL,
                    () -> Checks.marked(Checks.full()), x -> x.country(size));
        }
    }

    // "Adds a country without borders."; "painted in a hue or not painted, as at first"; "or none, as at first";
    // "A crown from 0 to 9 [..], at first 0."
    private static void promise2ANewCountryHasNothingYet() {
        FlagHues x = Checks.complete(3);
        x.paint(2, 1);
        x.wish(2, 1, 9);
        for (int undos = 0; undos < 5; undos++) {
            x.undo();
        }
        Checks.due("its number is free again", 2, x.country(4));
        int[] bare = {4, -1, 0, 3, -1, 0, -1};
        for (int what = 0; what <= 6; what++) {
            Checks.due("countryOf(2, " + what + ")", bare[what], x.countryOf(2, what));
        }
        Checks.due("hasBorder(0, 2)", false, x.hasBorder(0, 2));
        Checks.due("hasBorder(2, 1)", false, x.hasBorder(2, 1));
        Checks.due("the others keep theirs", 1, x.account(1));
    }

    // "Returns how many borders there are then."
    private static void promise3FromOneBorderToTwentyOne() {
        FlagHues x = Checks.full();
        int many = 0;
        for (int country = 6; country >= 0; country--) {
            for (int other = 0; other < country; other++) {
                many++;
                Checks.due("border(" + country + ", " + other + ")", many, x.border(country, other));
            }
        }
        Checks.due("each two have one", 21, many);
    }

    // "Throws IndexOutOfBoundsException if there is no such country"
    private static void promise3NoSuchCountry() {
        int[][] pairs = {{-1, 0}, {0, -1}, {2, 0}, {1, 2}, {2, 2}, {-1, -1}, {-1, 2}, {LOW, 0}, {0, HIGH}, {7, 1}};
        for (int[] pair : pairs) {
            Checks.dueThrowLeavingAll("border(" + pair[0] + ", " + pair[1] + ") of two", OUTSIDE,
                    () -> Checks.marked(Checks.withSizes(1, 1)), x -> x.border(pair[0], pair[1]));
            Checks.dueThrowLeavingAll("erase(" + pair[0] + ", " + pair[1] + ") of two", OUTSIDE,
                    () -> Checks.marked(Checks.complete(2)), x -> x.erase(pair[0], pair[1]));
        }
    }

    private static void promise3NoSuchCountryInAnEmptyOrAFullMap() {
        Checks.dueThrowLeavingAll("border(0, 0) without countries", OUTSIDE, FlagHues::new, x -> x.border(0, 0));
        Checks.dueThrowLeavingAll("border(6, 7)", OUTSIDE, () -> Checks.marked(Checks.full()), x -> x.border(6, 7));
        Checks.dueThrowLeavingAll("border(7, 0)", OUTSIDE, () -> Checks.marked(Checks.full()), x -> x.border(7, 0));
        Checks.due("border(6, 0)", 1, Checks.full().border(6, 0));
        Checks.due("border(0, 6)", 1, Checks.full().border(0, 6));
    }

    // "5, both countries are the same: the country"; "A country has no border with itself."
    private static void promise3BothAreTheSame() {
        for (int country : new int[] {0, 3, 6}) {
            Checks.dueRefusalLeavingAll("border with itself", 5, country, () -> Checks.marked(Checks.full()),
                    x -> x.border(country, country));
        }
    }

    // "refused for reason 5, 6 or 7", in this order
    private static void promise3Reason5BeforeReason7() {
        Checks.dueRefusalLeavingAll("border(1, 1), painted", 5, 1, () -> paintedIn(0, 1), x -> x.border(1, 1));
    }

    // "6, they have a border, or they have none: the other country"
    private static void promise3TheyHaveOne() {
        Checks.dueRefusalLeavingAll("border(0, 6)", 6, 6, () -> Checks.marked(withBorder(0, 6)), x -> x.border(0, 6));
        Checks.dueRefusalLeavingAll("border(6, 0)", 6, 0, () -> Checks.marked(withBorder(0, 6)), x -> x.border(6, 0));
    }

    // "7, both are painted in one hue: the hue"
    private static void promise3BothInOneHue() {
        for (int hue = 0; hue < 5; hue++) {
            int both = hue;
            Checks.dueRefusalLeavingAll("border within hue " + hue, 7, hue, () -> paintedIn(both, 1, 6),
                    x -> x.border(6, 1));
        }
    }

    private static void promise3NotBothInOneHue() {
        Checks.due("none is painted", 1, Checks.full().border(1, 2));
        Checks.due("the first is painted", 1, paintedIn(0, 1).border(1, 2));
        Checks.due("the second is painted", 1, paintedIn(0, 2).border(1, 2));
        FlagHues x = paintedIn(3, 1);
        x.paint(2, 4);
        Checks.due("both, in two hues", 1, x.border(1, 2));
        FlagHues y = paintedIn(2, 1, 2);
        y.back();
        Checks.due("the paint is off again", 1, y.border(1, 2));
    }

    // "Returns how many borders there are then." (erase)
    private static void promise4FromTwentyOneBordersToNone() {
        FlagHues x = Checks.complete(7);
        int left = 21;
        for (int country = 0; country < 7; country++) {
            for (int other = 6; other > country; other--) {
                left--;
                Checks.due("erase(" + country + ", " + other + ")", left, x.erase(country, other));
            }
        }
        Checks.due("none is left", 0, left);
    }

    private static void promise4NoSuchCountryInAnEmptyOrAFullMap() {
        Checks.dueThrowLeavingAll("erase(0, 0) without countries", OUTSIDE, FlagHues::new, x -> x.erase(0, 0));
        Checks.dueThrowLeavingAll("erase(7, 6)", OUTSIDE, () -> Checks.marked(Checks.full()), x -> x.erase(7, 6));
        Checks.dueThrowLeavingAll("erase(0, 7)", OUTSIDE, () -> Checks.marked(Checks.full()), x -> x.erase(0, 7));
        Checks.due("erase(6, 0)", 0, withBorder(0, 6).erase(6, 0));
        Checks.due("erase(0, 6)", 0, withBorder(0, 6).erase(0, 6));
    }

    // "refused for reason 5 or 6", in this order: a country has no border with itself, too
    private static void promise4Reason5BeforeReason6() {
        for (int country : new int[] {0, 3, 6}) {
            Checks.dueRefusalLeavingAll("erase with itself", 5, country, () -> Checks.marked(Checks.complete(7)),
                    x -> x.erase(country, country));
        }
    }

    private static void promise4TheyHaveNone() {
        Checks.dueRefusalLeavingAll("erase(0, 6)", 6, 6, () -> Checks.marked(withBorder(0, 5)), x -> x.erase(0, 6));
        Checks.dueRefusalLeavingAll("erase(6, 0)", 6, 0, () -> Checks.marked(withBorder(0, 5)), x -> x.erase(6, 0));
        FlagHues twice = withBorder(0, 6);
        twice.erase(6, 0);
        Checks.dueRefusal("erase(0, 6) a second time", 6, 6, twice, () -> twice.erase(0, 6));
    }

    // Reason 7 is none of those that erase names.
    private static void promise4PaintedOnesMayLoseTheirBorder() {
        FlagHues x = withBorder(1, 2);
        x.paint(1, 0);
        x.paint(2, 1);
        Checks.due("erase(1, 2)", 0, x.erase(1, 2));
        FlagHues y = Checks.full();
        y.paint(1, 0);
        y.paint(2, 0);
        Checks.dueRefusal("erase(1, 2) within one hue, without a border", 6, 2, y, () -> y.erase(1, 2));
    }

    // "Returns whether two countries have a border."
    private static void promise5BothWaysRound() {
        FlagHues x = withBorder(6, 0);
        Checks.due("hasBorder(6, 0)", true, x.hasBorder(6, 0));
        Checks.due("hasBorder(0, 6)", true, x.hasBorder(0, 6));
        Checks.due("hasBorder(0, 5)", false, x.hasBorder(0, 5));
        Checks.due("hasBorder(5, 6)", false, x.hasBorder(5, 6));
        x.erase(0, 6);
        Checks.due("hasBorder(6, 0) after erase", false, x.hasBorder(6, 0));
        Checks.due("hasBorder(0, 6) after erase", false, x.hasBorder(0, 6));
    }

    // "A country has no border with itself."
    private static void promise5NoneWithItself() {
        for (int country : new int[] {0, 3, 6}) {
            Checks.dueLeavingAll("hasBorder with itself", false, () -> Checks.marked(Checks.complete(7)),
                    x -> x.hasBorder(country, country));
        }
    }

    private static void promise5NoSuchCountry() {
        int[][] pairs = {{-1, 0}, {0, -1}, {2, 0}, {0, 2}, {2, 2}, {-1, -1}, {LOW, 0}, {0, HIGH}, {32, 1}, {1, 33}};
        for (int[] pair : pairs) {
            Checks.dueThrowLeavingAll("hasBorder(" + pair[0] + ", " + pair[1] + ") of two", OUTSIDE,
                    () -> Checks.marked(Checks.complete(2)), x -> x.hasBorder(pair[0], pair[1]));
        }
        Checks.dueThrow("hasBorder(6, 7)", OUTSIDE, () -> Checks.complete(7).hasBorder(6, 7));
        Checks.due("hasBorder(6, 5)", true, Checks.complete(7).hasBorder(6, 5));
    }

    // "0 for its size, 1 for its hue, -1 if it is not painted, [..] 4 for its wish, -1 if it has none, 5 for its crown,
    // 6 for its place among the steps, -1 if it is not painted"
    private static void promise6LeastOfEachNumber() {
        FlagHues x = Checks.full();
        int[] least = {1, -1, 0, 3, -1, 0, -1};
        for (int country : new int[] {0, 6}) {
            for (int what = 0; what <= 6; what++) {
                Checks.due("countryOf(" + country + ", " + what + ")", least[what], x.countryOf(country, what));
            }
        }
        x.wish(6, 0, 0);
        x.paint(6, 0);
        int[] zeros = {1, 0, 0, 0, 0, 0, 0};
        for (int what = 0; what <= 6; what++) {
            Checks.due("countryOf(6, " + what + ") with zeros", zeros[what], x.countryOf(6, what));
        }
    }

    private static void promise6MostOfEachNumber() {
        FlagHues x = Checks.full(9);
        x.hues(5);
        Checks.due("all five hues are free", 5, x.countryOf(0, 3));
        x.wish(0, 4, 9);
        for (int country = 6; country >= 1; country--) {
            x.border(country, 0);
            x.paint(country, 1);
        }
        x.paint(0, 4);
        int[] most = {9, 4, 6, 0, 4, 9, 6};
        for (int what = 0; what <= 6; what++) {
            Checks.due("countryOf(0, " + what + ")", most[what], x.countryOf(0, what));
        }
    }

    // "A hue is free for a country that is not painted if it can be used, no neighbour has it, and there are enough
    // pots of it for the size of the country."; "3 for how many hues are free for it, 0 if it is painted"
    private static void promise6FreeHues() {
        FlagHues x = Checks.full(9, 1, 1, 1);
        x.hues(1);
        Checks.due("one that can be used", 1, x.countryOf(0, 3));
        x.hues(5);
        x.border(0, 1);
        x.border(0, 2);
        Checks.due("neighbours without paint", 5, x.countryOf(0, 3));
        x.pots(4, 1);
        x.paint(1, 4);
        Checks.due("a neighbour has it, and there are just enough pots", 4, x.countryOf(0, 3));
        x.paint(3, 0);
        Checks.due("one pot too few of another", 3, x.countryOf(0, 3));
        Checks.due("enough for a small one", 5, x.countryOf(4, 3));
        x.pots(0, 1);
        Checks.due("just enough again", 4, x.countryOf(0, 3));
        x.pots(4, 1);
        x.paint(2, 4);
        Checks.due("two neighbours have one hue", 4, x.countryOf(0, 3));
        x.paint(0, 1);
        Checks.due("0 if it is painted", 0, x.countryOf(0, 3));
    }

    // "Throws IllegalArgumentException if what is not from 0 to 6"
    private static void promise6WhatOutOfRange() {
        for (int what : new int[] {-1, 7, LOW, HIGH}) {
            Checks.dueThrowLeavingAll("countryOf(0, " + what + ")", ILLEGAL,
                    () -> Checks.marked(Checks.full()), x -> x.countryOf(0, what));
        }
    }

    private static void promise6NoSuchCountryFirst() {
        for (int country : new int[] {-1, 2, 7, LOW, HIGH}) {
            for (int what : new int[] {0, 6, -1, 7}) {
                Checks.dueThrowLeavingAll("countryOf(" + country + ", " + what + ") of two", OUTSIDE,
                        () -> Checks.marked(Checks.withSizes(1, 1)), x -> x.countryOf(country, what));
            }
        }
        Checks.dueThrow("countryOf(7, 0)", OUTSIDE, () -> Checks.full().countryOf(7, 0));
        Checks.dueThrow("countryOf(0, 0) without countries", OUTSIDE, () -> new FlagHues().countryOf(0, 0));
    }

    // "from 1 to 5 of them, the first ones, can be used"; "Returns how many could be used before."
    private static void promise7FromOneToFiveHues() {
        for (int many = 1; many <= 5; many++) {
            FlagHues x = Checks.withSizes(1);
            Checks.due("hues(" + many + ")", 3, x.hues(many));
            Checks.due("account(2)", many, x.account(2));
            for (int hue = 0; hue < 5; hue++) {
                Checks.due("whether hue " + hue + " can be used", hue < many ? 1 : 0, x.hueOf(hue, 1));
            }
            Checks.due("the free hues", many, x.countryOf(0, 3));
            Checks.due("hues(3) then", many, x.hues(3));
        }
    }

    // "Throws IllegalArgumentException if the number is out of range"
    private static void promise7ManyOutOfRange() {
        for (int many : new int[] {0, 6, -1, LOW, HIGH}) {
            Checks.dueThrowLeavingAll("hues(" + many + ")", ILLEGAL,
                    () -> Checks.marked(Checks.withSizes(1)), x -> x.hues(many));
        }
    }

    // "9, a country is painted in a hue that could not be used any more: the lowest such country"
    private static void promise7AHueThatIsNeeded() {
        for (int hue = 1; hue < 5; hue++) {
            int needed = hue;
            Checks.dueRefusalLeavingAll("hues(" + hue + ") when hue " + hue + " is needed", 9, 6,
                    () -> paintedIn(needed, 6), x -> x.hues(needed));
            Checks.due("one more is enough", 5, paintedIn(hue, 6).hues(hue + 1));
            Checks.dueRefusalLeavingAll("hues(1) when hue " + hue + " is needed", 9, 6, () -> paintedIn(needed, 6),
                    x -> x.hues(1));
        }
        Checks.due("hue 0 is always there", 5, paintedIn(0, 6).hues(1));
        FlagHues x = paintedIn(4, 2);
        x.back();
        Checks.due("not painted any more", 5, x.hues(1));
    }

    private static void promise7TheLowestSuchCountry() {
        Checks.dueRefusalLeavingAll("hues(3)", 9, 1, () -> threeHighHues(), x -> x.hues(3));
        Checks.dueRefusalLeavingAll("hues(4)", 9, 5, () -> threeHighHues(), x -> x.hues(4));
        Checks.dueRefusalLeavingAll("hues(2)", 9, 0, () -> threeHighHues(), x -> x.hues(2));
        Checks.due("hues(5)", 5, threeHighHues().hues(5));
    }

    private static void promise7TheNumberBeforeReason9() {
        Checks.dueThrowLeavingAll("hues(0) when hue 4 is needed", ILLEGAL, () -> paintedIn(4, 0), x -> x.hues(0));
        Checks.dueThrowLeavingAll("hues(-1) when hue 4 is needed", ILLEGAL, () -> paintedIn(4, 0), x -> x.hues(-1));
    }

    // "how many, 1 to 50"; "Returns the pots of the hue then."
    private static void promise8FewestAndMostPots() {
        FlagHues x = new FlagHues();
        Checks.due("pots(0, 1)", 10, x.pots(0, 1));
        Checks.due("pots(4, 50)", 59, x.pots(4, 50));
        Checks.due("pots(0, 50)", 60, x.pots(0, 50));
        Checks.due("the hues between stay", 27, x.hueOf(1, 0) + x.hueOf(2, 0) + x.hueOf(3, 0));
        Checks.due("no pots are used by that", 0, x.account(7));
    }

    // "Brings pots of a hue; what would be more than 99 is not brought."
    private static void promise8NotMoreThan99() {
        Checks.due("just 99", 99, with98Pots().pots(2, 1));
        Checks.due("one too many", 99, with98Pots().pots(2, 2));
        Checks.due("many too many", 99, with98Pots().pots(2, 50));
        FlagHues x = with98Pots();
        x.pots(2, 1);
        Checks.due("none is brought", 99, x.pots(2, 1));
        Checks.due("hueOf(2, 0)", 99, x.hueOf(2, 0));
        Checks.due("all pots", 99 + 36, x.account(6));
    }

    // "Throws IllegalArgumentException if the number is out of range" (pots)
    private static void promise8PotsOutOfRange() {
        for (int many : new int[] {0, 51, -1, LOW, HIGH}) {
            Checks.dueThrowLeavingAll("pots(0, " + many + ")", ILLEGAL, () -> Checks.marked(Checks.withSizes(1)),
                    x -> x.pots(0, many));
            Checks.dueThrowLeavingAll("pots(2, " + many + ") of 98", ILLEGAL, () -> with98Pots(),
                    x -> x.pots(2, many));
        }
    }

    // "Throws IndexOutOfBoundsException if there is no such hue"
    private static void promise8NoSuchHueFirst() {
        for (int hue : new int[] {-1, 5, LOW, HIGH}) {
            for (int many : new int[] {1, 50, 0, 51}) {
                Checks.dueThrowLeavingAll("pots(" + hue + ", " + many + ")", OUTSIDE,
                        () -> Checks.marked(Checks.withSizes(1)), x -> x.pots(hue, many));
            }
        }
    }

    // "0 for its pots, 1 for 1 if it can be used and 0 otherwise, 2 for the countries that are painted in it, 3 for the
    // pots of it that were used so far"
    private static void promise9LeastAndMostOfEachNumber() {
        FlagHues x = Checks.full();
        int[] least = {9, 0, 0, 0};
        for (int what = 0; what <= 3; what++) {
            Checks.due("hueOf(4, " + what + ")", least[what], x.hueOf(4, what));
        }
        x.hues(1);
        x.pots(0, 50);
        x.pots(0, 50);
        Checks.due("fill()", 7, x.fill());
        int[] most = {92, 1, 7, 7};
        for (int what = 0; what <= 3; what++) {
            Checks.due("hueOf(0, " + what + ")", most[what], x.hueOf(0, what));
        }
        FlagHues y = Checks.withSizes(9);
        y.paint(0, 2);
        Checks.due("no pot is left", 0, y.hueOf(2, 0));
    }

    // "When paint is taken off a country, the pots do not come back."; "used so far"
    private static void promise9UsedPotsAddUp() {
        FlagHues x = Checks.withSizes(4, 5);
        x.paint(0, 1);
        x.back();
        Checks.due("used, and taken off", 4, x.hueOf(1, 3));
        Checks.due("no country has it then", 0, x.hueOf(1, 2));
        Checks.due("the pots did not come back", 5, x.hueOf(1, 0));
        x.paint(1, 1);
        Checks.due("used again", 9, x.hueOf(1, 3));
        Checks.due("not of the other hues", 0, x.hueOf(0, 3) + x.hueOf(2, 3));
    }

    // "Throws IllegalArgumentException if what is not from 0 to 3"
    private static void promise9WhatOutOfRange() {
        for (int what : new int[] {-1, 4, LOW, HIGH}) {
            for (int hue : new int[] {0, 4}) {
                Checks.dueThrowLeavingAll("hueOf(" + hue + ", " + what + ")", ILLEGAL,
                        () -> Checks.marked(Checks.withSizes(1)), x -> x.hueOf(hue, what));
            }
        }
    }

    private static void promise9NoSuchHueFirst() {
        for (int hue : new int[] {-1, 5, LOW, HIGH}) {
            for (int what : new int[] {0, 3, -1, 4}) {
                Checks.dueThrowLeavingAll("hueOf(" + hue + ", " + what + ")", OUTSIDE,
                        () -> Checks.marked(Checks.withSizes(1)), x -> x.hueOf(hue, what));
            }
        }
    }

    // Questions are no changes, and leave everything as it is.
    private static void promises5And6And9AreQuestions() {
        for (int what = 0; what <= 6; what++) {
            int asked = what;
            Checks.dueLeavingAll("countryOf(3, " + what + ")", paintedIn(1, 3).countryOf(3, what),
                    () -> paintedIn(1, 3), x -> x.countryOf(3, asked));
        }
        for (int what = 0; what <= 3; what++) {
            int asked = what;
            Checks.dueLeavingAll("hueOf(1, " + what + ")", paintedIn(1, 3).hueOf(1, what),
                    () -> paintedIn(1, 3), x -> x.hueOf(1, asked));
        }
        Checks.dueLeavingAll("hasBorder(3, 2)", false, () -> paintedIn(1, 3), x -> x.hasBorder(3, 2));
    }

    // Each call that throws UnsupportedOperationException is no change, and gives no other exception.
    private static void promises2To7ThrowJustTheClassThatIsNamed() {
        FlagHues x = paintedIn(4, 0);
        Checks.dueThrow("country(1)", REFUSED, () -> x.country(1));
        Checks.dueThrow("border(0, 0)", REFUSED, () -> x.border(0, 0));
        Checks.dueThrow("erase(0, 1)", REFUSED, () -> x.erase(0, 1));
        Checks.dueThrow("hues(4)", REFUSED, () -> x.hues(4));
        Checks.due("the latest reason", 9, x.refusal(false));
    }

    private static FlagHues withBorder(int country, int other) {
        FlagHues x = Checks.full();
        x.border(country, other);
        return x;
    }

    /** A full map with five hues, in which these countries have the hue. */
    private static FlagHues paintedIn(int hue, int... countries) {
        FlagHues x = Checks.full();
        x.hues(5);
        for (int country : countries) {
            x.paint(country, hue);
        }
        return Checks.marked(x);
    }

    private static FlagHues threeHighHues() {
        FlagHues x = Checks.full();
        x.hues(5);
        x.paint(6, 3);
        x.paint(5, 4);
        x.paint(1, 3);
        x.paint(0, 2);
        return Checks.marked(x);
    }

    private static FlagHues with98Pots() {
        FlagHues x = new FlagHues();
        x.pots(2, 50);
        x.pots(2, 39);
        return x;
    }
}
