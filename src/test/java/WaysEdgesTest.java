import java.util.NoSuchElementException;

/** The edges of promises 18 to 26; each test stands below the words of the document that it holds to. */
public final class WaysEdgesTest {
    private static final Class<NoSuchElementException> NONE_SUCH = NoSuchElementException.class;
    private static final Class<IndexOutOfBoundsException> OUTSIDE = IndexOutOfBoundsException.class;
    private static final Class<IllegalArgumentException> ILLEGAL = IllegalArgumentException.class;
    private static final int LOW = Integer.MIN_VALUE;
    private static final int HIGH = Integer.MAX_VALUE;

    public static void main(String[] args) {
        Checks.runTestsOf(WaysEdgesTest.class);
    }

    // "Returns the wish before, -1 if it had none."
    private static void promise18FromTheLeastToTheMost() {
        FlagHues x = Checks.full();
        for (int country : new int[] {0, 6}) {
            Checks.due("wish(" + country + ", 0, 0)", -1, x.wish(country, 0, 0));
            Checks.due("its wish", 0, x.countryOf(country, 4));
            Checks.due("wish(" + country + ", 4, 9)", 0, x.wish(country, 4, 9));
            Checks.due("its crown", 9, x.countryOf(country, 5));
            Checks.due("wish(" + country + ", 0, 1)", 4, x.wish(country, 0, 1));
            Checks.due("its crown then", 1, x.countryOf(country, 5));
        }
        Checks.due("the wishes", 2, x.account(9));
        Checks.due("the others have none", -1, x.countryOf(3, 4));
    }

    // "A wish can be for a hue that cannot be used, and can be replaced, but not taken away."
    private static void promise18ForAHueThatCannotBeUsed() {
        FlagHues x = Checks.withSizes(1);
        x.hues(1);
        for (int hue = 1; hue < 5; hue++) {
            Checks.due("wish(0, " + hue + ", 3)", hue == 1 ? -1 : hue - 1, x.wish(0, hue, 3));
        }
        Checks.due("one wish", 1, x.account(9));
        x.paint(0, 0);
        Checks.due("of a painted one", 4, x.wish(0, 0, 5));
        Checks.due("fulfilled at once", 5, x.fulfilled());
    }

    // "Throws IndexOutOfBoundsException if there is no such country or hue"
    private static void promise18NoSuchCountryOrHueFirst() {
        int[][] pairs = {{-1, 0}, {3, 0}, {7, 4}, {LOW, 0}, {HIGH, 1}, {0, -1}, {1, 5}, {0, LOW}, {0, HIGH}, {3, 5}};
        for (int[] pair : pairs) {
            for (int crown : new int[] {0, 9, -1, 10}) {
                Checks.dueThrowLeavingAll("wish(" + pair[0] + ", " + pair[1] + ", " + crown + ")", OUTSIDE,
                        () -> wishing(), x -> x.wish(pair[0], pair[1], crown));
            }
        }
        Checks.dueThrowLeavingAll("wish(0, 0, 0) without countries", OUTSIDE, FlagHues::new, x -> x.wish(0, 0, 0));
    }

    // "Throws IllegalArgumentException if the crown is out of range"; "A crown from 0 to 9"
    private static void promise18CrownOutOfRange() {
        for (int crown : new int[] {-1, 10, LOW, HIGH}) {
            Checks.dueThrowLeavingAll("wish(0, 0, " + crown + ")", ILLEGAL, () -> wishing(),
                    x -> x.wish(0, 0, crown));
            Checks.dueThrowLeavingAll("wish(1, 4, " + crown + ")", ILLEGAL, () -> wishing(),
                    x -> x.wish(1, 4, crown));
        }
    }

    // "Returns the sum of the crowns of all wishes that are fulfilled."
    private static void promise19FromNoneToSevenTimesNine() {
        Checks.due("without countries", 0, new FlagHues().fulfilled());
        FlagHues x = Checks.full();
        Checks.due("without wishes", 0, x.fulfilled());
        for (int country = 0; country < 7; country++) {
            x.wish(country, 1, 9);
        }
        Checks.due("none is painted", 0, x.fulfilled());
        for (int country = 0; country < 7; country++) {
            x.paint(country, 1);
            Checks.due("painted as wished", 9 * (country + 1), x.fulfilled());
        }
        x.wish(6, 1, 0);
        Checks.due("a crown of 0", 54, x.fulfilled());
        Checks.due("it is fulfilled all the same", 7, x.account(10));
        x.wish(6, 0, 9);
        Checks.due("another hue", 54, x.fulfilled());
        Checks.due("one is not fulfilled", 6, x.account(10));
        x.back();
        x.wish(6, 1, 9);
        Checks.due("not painted any more", 54, x.fulfilled());
    }

    // "A wish is fulfilled if the country is painted in this hue."
    private static void promise19NoWishAndNoPaintIsNotFulfilled() {
        FlagHues x = Checks.withSizes(1, 1, 1);
        Checks.due("no wish, no paint", 0, x.account(10));
        x.paint(0, 0);
        x.wish(1, 0, 9);
        Checks.due("paint alone, a wish alone", 0, x.account(10));
        Checks.due("their crowns", 0, x.fulfilled());
        x.wish(0, 0, 3);
        Checks.due("hue 0 as wished", 3, x.fulfilled());
        Checks.dueLeavingAll("a wish without paint", 0, () -> wishing(), FlagHues::fulfilled);
    }

    private static void dueWays(String map, int want, FlagHues x) {
        Checks.due("ways() " + map, want, x.ways());
        Checks.due("waysAgain() " + map, want, x.waysAgain());
    }

    // "Of a map without countries there is one way"; "If all are painted, there is one way."
    private static void promises20And21OneWay() {
        dueWays("without countries", 1, new FlagHues());
        FlagHues one = Checks.withSizes(1);
        one.hues(1);
        dueWays("of one country with one hue", 1, one);
        one.paint(0, 0);
        dueWays("of one that is painted", 1, one);
        FlagHues all = Checks.complete(5);
        all.hues(5);
        for (int country = 0; country < 5; country++) {
            dueWays("of " + (5 - country) + " neighbours that are left", factorial(5 - country), all);
            all.paint(country, 4 - country);
        }
        dueWays("when all five are painted", 1, all);
        FlagHues seven = Checks.full();
        seven.hues(1);
        dueWays("of seven with one hue", 1, seven);
        seven.fill();
        dueWays("when all seven are painted", 1, seven);
    }

    private static int factorial(int n) {
        return n <= 1 ? 1 : n * factorial(n - 1);
    }

    // No way at all, and the most that there can be: 5 * 5 * 5 * 5 * 5 * 5 * 5.
    private static void promises20And21NoWayAndTheMost() {
        FlagHues two = Checks.complete(2);
        two.hues(1);
        dueWays("of two neighbours with one hue", 0, two);
        FlagHues six = Checks.complete(6);
        six.hues(5);
        dueWays("of six neighbours with five hues", 0, six);
        FlagHues most = Checks.full();
        int want = 78125;
        most.hues(5);
        for (int country = 6; country >= 0; country--) {
            dueWays("of " + (country + 1) + " that are left", want, most);
            most.paint(country, 3);
            want /= 5;
        }
    }

    // "no two neighbours have the same one, those that are painted included; pots do not matter for ways"
    private static void promises20And21PaintedOnesCountAndPotsDoNot() {
        FlagHues x = Checks.withSizes(9, 9, 9, 9);
        x.paint(0, 0);
        x.paint(1, 1);
        x.paint(2, 2);
        Checks.due("3 is stuck", 3, x.stuck());
        dueWays("without any pots", 3, x);
        x.border(3, 0);
        dueWays("beside hue 0", 2, x);
        x.border(2, 3);
        dueWays("beside hues 0 and 2", 1, x);
        x.border(3, 1);
        dueWays("beside all three hues", 0, x);
        x.hues(4);
        dueWays("with a fourth hue", 1, x);
        x.hues(5);
        dueWays("with a fifth hue", 2, x);
    }

    private static void promises20And21OneHueBesideAPaintedOne() {
        FlagHues x = Checks.full();
        x.hues(1);
        x.paint(3, 0);
        x.paint(5, 0);
        x.paint(6, 0);
        dueWays("of four with one hue", 1, x);
        x.border(3, 0);
        dueWays("of four with one hue, one beside it", 0, x);
        x.erase(0, 3);
        x.border(4, 2);
        dueWays("of four with one hue, two neighbours", 0, x);
    }

    // "A wish can be for a hue that cannot be used": no way fulfils it
    private static void promise22EachWishOfEachManyHues() {
        for (int usable = 1; usable <= 5; usable++) {
            for (int hue = 0; hue < 5; hue++) {
                FlagHues x = Checks.withSizes(1, 1);
                x.hues(usable);
                x.wish(1, hue, 0);
                Checks.due("wish for " + hue + " of " + usable, hue < usable ? usable : 0, x.waysFor(1));
            }
        }
    }

    // "no two neighbours have the same one, those that are painted included": each of several in one hue
    private static void promises20To22SeveralPaintedInOneHue() {
        int[] painted = {0, 3, 6};
        for (int hue = 0; hue < 3; hue++) {
            for (int beside : painted) {
                FlagHues x = Checks.full();
                for (int country : painted) {
                    x.paint(country, hue);
                }
                x.border(beside, 4);
                dueWays("of four, one beside hue " + hue, 3 * 3 * 3 * 2, x);
                x.wish(5, hue, 1);
                Checks.due("waysFor(5)", 3 * 3 * 2, x.waysFor(5));
                x.wish(4, (hue + 1) % 3, 1);
                Checks.due("waysFor(4)", 3 * 3 * 3, x.waysFor(4));
                x.wish(4, hue, 1);
                Checks.due("waysFor(4) in the hue beside it", 0, x.waysFor(4));
            }
        }
    }

    // "by numbers [..], if at most 4 countries are left; otherwise as ways does": every map of 4 and of 5 countries.
    private static void promises20And21EveryMapOfFourAndFive() {
        for (int borders = 0; borders < 1 << 6; borders++) {
            for (int hues = 1; hues <= 5; hues++) {
                dueWays("of four, borders " + borders + ", hues " + hues, coloured(4, borders, hues),
                        drawn(4, borders, hues));
            }
        }
        for (int borders = 0; borders < 1 << 10; borders++) {
            int hues = 1 + borders % 5;
            dueWays("of five, borders " + borders + ", hues " + hues, coloured(5, borders, hues),
                    drawn(5, borders, hues));
        }
    }

    private static FlagHues drawn(int countries, int borders, int hues) {
        FlagHues x = new FlagHues();
        x.hues(hues);
        int bit = 0;
        for (int country = 0; country < countries; country++) {
            x.country(1);
            for (int other = 0; other < country; other++) {
                if ((borders >> bit++ & 1) != 0) {
                    x.border(other, country);
                }
            }
        }
        return x;
    }

    private static int coloured(int countries, int borders, int hues) {
        int total = 1;
        for (int country = 0; country < countries; country++) {
            total *= hues;
        }
        int many = 0;
        for (int number = 0; number < total; number++) {
            many += isColouring(countries, borders, hues, number) ? 1 : 0;
        }
        return many;
    }

    private static boolean isColouring(int countries, int borders, int hues, int number) {
        int[] hue = new int[countries];
        int rest = number;
        int bit = 0;
        for (int country = 0; country < countries; country++) {
            hue[country] = rest % hues;
            rest /= hues;
            for (int other = 0; other < country; other++) {
                if ((borders >> bit++ & 1) != 0 && hue[other] == hue[country]) {
                    return false;
                }
            }
        }
        return true;
    }

    // "Throws IndexOutOfBoundsException if there is no such country"; "NoSuchElementException if it has no wish"
    private static void promise22NoSuchCountryThenNoWish() {
        for (int country : new int[] {-1, 3, 7, LOW, HIGH}) {
            Checks.dueThrowLeavingAll("waysFor(" + country + ") of three", OUTSIDE, () -> wishing(),
                    x -> x.waysFor(country));
        }
        Checks.dueThrow("waysFor(0) without countries", OUTSIDE, () -> new FlagHues().waysFor(0));
        Checks.dueThrowLeavingAll("waysFor(1) without a wish", NONE_SUCH, () -> wishing(), x -> x.waysFor(1));
        Checks.dueThrowLeavingAll("waysFor(2), painted, without a wish", NONE_SUCH, () -> wishing(),
                x -> x.waysFor(2));
        Checks.dueLeavingAll("waysFor(0)", 3, () -> wishing(), x -> x.waysFor(0));
    }

    // "Of a country that is painted, all ways fulfil its wish, or none does."
    private static void promise22OfAPaintedOneAllOrNone() {
        FlagHues x = Checks.complete(3);
        x.paint(1, 0);
        for (int hue = 0; hue < 5; hue++) {
            x.wish(1, hue, 9);
            Checks.due("painted in 0, and wishes " + hue, hue == 0 ? 2 : 0, x.waysFor(1));
        }
        x.paint(0, 1);
        x.paint(2, 2);
        x.wish(2, 2, 0);
        Checks.due("all are painted, as wished", 1, x.waysFor(2));
        x.wish(2, 0, 0);
        Checks.due("all are painted, not as wished", 0, x.waysFor(2));
    }

    // "Returns how many of the ways fulfil the wish of a country."
    private static void promise22TheWishesShareTheWays() {
        FlagHues x = Checks.full();
        x.border(0, 1);
        x.border(1, 2);
        x.border(2, 6);
        x.border(6, 0);
        x.border(5, 6);
        x.hues(4);
        x.paint(5, 1);
        for (int country : new int[] {0, 2, 6}) {
            int sum = 0;
            for (int hue = 0; hue < 5; hue++) {
                x.wish(country, hue, 0);
                int ways = x.waysFor(country);
                boolean isBarred = hue == 4 || country == 6 && hue == 1;
                Checks.due("ways for hue " + hue + " of " + country + " at all", !isBarred, ways > 0);
                sum += ways;
            }
            Checks.due("all wishes of " + country, x.ways(), sum);
        }
    }

    private static void promise22NoWayAtAllAndNoPots() {
        FlagHues x = Checks.complete(4);
        x.wish(0, 0, 1);
        Checks.due("of no way", 0, x.waysFor(0));
        FlagHues y = Checks.withSizes(9, 9);
        y.paint(0, 1);
        y.wish(1, 1, 1);
        Checks.due("pots do not matter", 1, y.waysFor(1));
        y.border(0, 1);
        Checks.due("a painted neighbour does", 0, y.waysFor(1));
    }

    // "and one hue is the fewest"; "and at least one hue"
    private static void promise23AtLeastOneHue() {
        Checks.dueLeavingAll("fewest() without countries", 1, FlagHues::new, FlagHues::fewest);
        Checks.dueLeavingAll("fewest() of seven without borders", 1, () -> Checks.marked(Checks.full()),
                FlagHues::fewest);
        FlagHues x = Checks.full();
        x.paint(6, 0);
        Checks.due("fewest() with hue 0", 1, x.fewest());
    }

    // "all hues of countries that are painted must be among them"
    private static void promise23ThePaintedHuesAreAmongThem() {
        for (int hue = 0; hue < 5; hue++) {
            for (int country : new int[] {0, 3, 6}) {
                FlagHues x = Checks.full();
                x.hues(5);
                x.paint(country, hue);
                Checks.due("fewest() with hue " + hue, hue + 1, x.fewest());
                x.paint((country + 1) % 7, 0);
                Checks.due("fewest() with hue 0 too", hue + 1, x.fewest());
            }
        }
    }

    // "Throws NoSuchElementException if 5 are not enough"; "whatever can be used now"
    private static void promise23FiveAreJustEnoughOrNot() {
        for (int usable = 1; usable <= 5; usable++) {
            int many = usable;
            for (int countries = 1; countries <= 5; countries++) {
                FlagHues x = Checks.complete(countries);
                x.hues(usable);
                Checks.due("fewest() of " + countries + " neighbours", countries, x.fewest());
            }
            Checks.dueThrowLeavingAll("fewest() of six neighbours", NONE_SUCH, () -> {
                FlagHues x = Checks.complete(6);
                x.hues(many);
                return Checks.marked(x);
            }, FlagHues::fewest);
        }
        Checks.dueThrow("fewest() of seven neighbours", NONE_SUCH, () -> Checks.complete(7).fewest());
        Checks.dueThrow("fewest() beside five painted ones", NONE_SUCH, () -> besideFive(0, 1, 2, 3, 4).fewest());
        Checks.due("fewest() beside four hues", 5, besideFive(0, 1, 2, 3, 3).fewest());
        Checks.due("fewest() beside hues 0 and 4", 5, besideFive(0, 0, 0, 4, 4).fewest());
        Checks.due("fewest() beside hues 0 to 2", 4, besideFive(0, 1, 2, 0, 1).fewest());
        Checks.due("fewest() beside hues 1 and 2", 3, besideFive(2, 1, 2, 1, 2).fewest());
    }

    /** Country 5 is not painted, and has a border with five that have these hues. */
    private static FlagHues besideFive(int... hues) {
        FlagHues x = Checks.withSizes(1, 1, 1, 1, 1, 9);
        x.hues(5);
        for (int country = 0; country < 5; country++) {
            x.border(country, 5);
            x.paint(country, hues[country]);
        }
        return x;
    }

    // "the greatest number of countries of which each has a border with each other"; "0 without countries"
    private static void promise24FromNoneToSeven() {
        Checks.dueLeavingAll("clique() without countries", 0, FlagHues::new, FlagHues::clique);
        for (int many = 1; many <= 7; many++) {
            FlagHues x = Checks.complete(many);
            Checks.due("clique() of " + many, many, x.clique());
            if (many > 1) {
                x.erase(0, many - 1);
                Checks.due("clique() of " + many + " without one border", many - 1, x.clique());
            }
        }
        Checks.due("clique() of seven without borders", 1, Checks.full().clique());
    }

    private static void promise24MapsWithoutTriangles() {
        FlagHues parts = Checks.full();
        for (int country = 0; country < 3; country++) {
            for (int other = 3; other < 7; other++) {
                parts.border(country, other);
            }
        }
        Checks.due("clique() of three beside four", 2, parts.clique());
        FlagHues ring = Checks.full();
        for (int country = 0; country < 7; country++) {
            ring.border(country, (country + 1) % 7);
        }
        Checks.due("clique() of a ring", 2, ring.clique());
        ring.border(0, 5);
        Checks.due("clique() of a ring with a triangle", 3, ring.clique());
        ring.paint(0, 0);
        Checks.due("clique() with a painted one", 3, ring.clique());
    }

    // "Returns its length."
    private static void promise25ShortestAndLongest() {
        FlagHues x = Checks.full();
        Checks.due("line(0)", 5, x.line(0));
        Checks.due("the shortest", "0:-()", Checks.lineOf(x, 0));
        Checks.due("of the last country", "6:-()", Checks.lineOf(x, 6));
        FlagHues y = Checks.complete(7);
        y.hues(1);
        Checks.due("without the sign", "0:-(1,2,3,4,5,6)", Checks.lineOf(y, 0));
        y.paint(3, 0);
        Checks.due("line(6)", 17, y.line(6));
        Checks.due("the longest", "6:-(0,1,2,3,4,5)!", Checks.lineOf(y, 6));
        Checks.due("of the painted one", "3:0(0,1,2,4,5,6)", Checks.lineOf(y, 3));
    }

    // "its number, then ":" and its hue, or "-" if it is not painted"
    private static void promise25EachHue() {
        for (int hue = 0; hue < 5; hue++) {
            FlagHues x = Checks.full();
            x.hues(5);
            x.border(6, 1);
            x.paint(6, hue);
            Checks.due("the line of a painted one", "6:" + hue + "(1)", Checks.lineOf(x, 6));
            Checks.due("the line of its neighbour", "1:-(6)", Checks.lineOf(x, 1));
            x.back();
            Checks.due("the line when the paint is off", "6:-(1)", Checks.lineOf(x, 6));
        }
    }

    // "and "!" if it is stuck": for want of pots, or by neighbours, but never if it is painted
    private static void promise25TheSignOfAStuckOne() {
        FlagHues x = Checks.withSizes(9, 9, 1);
        x.hues(1);
        Checks.due("with just enough pots", "1:-()", Checks.lineOf(x, 1));
        x.paint(2, 0);
        Checks.due("one pot too few", "1:-()!", Checks.lineOf(x, 1));
        x.pots(0, 1);
        Checks.due("enough again", "1:-()", Checks.lineOf(x, 1));
        x.border(2, 1);
        Checks.due("beside the only hue", "1:-(2)!", Checks.lineOf(x, 1));
        x.paint(0, 0);
        Checks.due("painted, and no pot is left", "0:0()", Checks.lineOf(x, 0));
    }

    // "Throws IndexOutOfBoundsException if there is no such country" (line)
    private static void promise25NoSuchCountryLeavesTheLine() {
        for (int country : new int[] {-1, 3, 7, LOW, HIGH}) {
            Checks.dueThrowLeavingAll("line(" + country + ") of three", OUTSIDE, () -> wishing(),
                    x -> x.line(country));
        }
        Checks.dueThrowLeavingAll("line(0) without countries", OUTSIDE, FlagHues::new, x -> x.line(0));
        Checks.dueThrow("line(7) of seven", OUTSIDE, () -> Checks.full().line(7));
    }

    // "Writes the line of a country, in place of the line before."
    private static void promise25InPlaceOfTheLineBefore() {
        FlagHues x = Checks.complete(7);
        x.hues(1);
        x.paint(0, 0);
        x.line(1);
        Checks.due("the long line", "1:-(0,2,3,4,5,6)!", Checks.writtenIn(x));
        FlagHues y = Checks.complete(3);
        y.country(1);
        y.line(0);
        y.line(3);
        Checks.due("the short one in its place", "3:-()", Checks.writtenIn(y));
        y.line(2);
        Checks.due("the long one in its place", "2:-(0,1)", Checks.writtenIn(y));
        y.paint(2, 0);
        Checks.due("a change does not write", "2:-(0,1)", Checks.writtenIn(y));
        int changes = y.account(12);
        y.line(2);
        Checks.due("line is no change", changes, y.account(12));
    }

    // "Returns a character of the line, which is empty at first."
    private static void promise26EmptyAtFirst() {
        for (int index : new int[] {0, -1, 1, LOW, HIGH}) {
            Checks.dueThrowLeavingAll("character(" + index + ")", OUTSIDE, FlagHues::new, x -> x.character(index));
            Checks.dueThrow("character(" + index + ") with countries", OUTSIDE,
                    () -> Checks.full().character(index));
        }
    }

    // "Throws IndexOutOfBoundsException if there is no such index"
    private static void promise26FirstAndLastIndex() {
        Checks.dueLeavingAll("character(0)", '0', () -> wishing(), x -> x.character(0));
        Checks.dueLeavingAll("character(4)", ')', () -> wishing(), x -> x.character(4));
        for (int index : new int[] {-1, 5, 6, 16, 17, LOW, HIGH}) {
            Checks.dueThrowLeavingAll("character(" + index + ") of five", OUTSIDE, () -> wishing(),
                    x -> x.character(index));
        }
        FlagHues x = Checks.complete(7);
        x.hues(1);
        x.paint(0, 0);
        x.line(6);
        Checks.due("character(16) of seventeen", '!', x.character(16));
        Checks.dueThrow("character(17) of seventeen", OUTSIDE, () -> x.character(17));
        x.line(0);
        Checks.due("character(15) of sixteen", ')', x.character(15));
        Checks.dueThrow("character(16) of sixteen", OUTSIDE, () -> x.character(16));
    }

    // Questions are no changes, and leave everything as it is.
    private static void promises20To24AreQuestions() {
        Checks.dueLeavingAll("ways()", 9, () -> wishing(), FlagHues::ways);
        Checks.dueLeavingAll("waysAgain()", 9, () -> wishing(), FlagHues::waysAgain);
        Checks.dueLeavingAll("fewest()", 1, () -> wishing(), FlagHues::fewest);
        Checks.dueLeavingAll("clique()", 1, () -> wishing(), FlagHues::clique);
    }

    /** Country 0 wishes hue 1, country 1 nothing, country 2 is painted; all have hue 0 or may have it. */
    private static FlagHues wishing() {
        FlagHues x = Checks.withSizes(1, 2, 3);
        x.wish(0, 1, 7);
        x.paint(2, 0);
        return Checks.marked(x);
    }
}
