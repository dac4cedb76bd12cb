import java.util.NoSuchElementException;

/** Promises 10 to 17: painting, stepping back, filling in, and what is best painted next. */
public final class PaintingTest {
    private static final Class<NoSuchElementException> NONE_SUCH = NoSuchElementException.class;
    private static final Class<IndexOutOfBoundsException> OUTSIDE = IndexOutOfBoundsException.class;

    public static void main(String[] args) {
        Checks.runTestsOf(PaintingTest.class);
    }

    private static void promise10Paint() {
        FlagHues x = Checks.withSizes(3, 6, 1, 9);
        Checks.dueThrow("paint(4, 0)", OUTSIDE, () -> x.paint(4, 0));
        Checks.dueThrow("paint(-1, 0)", OUTSIDE, () -> x.paint(-1, 0));
        Checks.dueThrow("paint(0, 5)", OUTSIDE, () -> x.paint(0, 5));
        Checks.dueThrowWithoutChange("paint(0, -1)", OUTSIDE, x, () -> x.paint(0, -1));
        Checks.due("paint(0, 2)", 1, x.paint(0, 2));
        Checks.due("paint(1, 2) takes the last pots", 2, x.paint(1, 2));
        Checks.due("the pots of hue 2", 0, x.hueOf(2, 0));
        Checks.due("the hue of 1", 2, x.countryOf(1, 1));
        Checks.due("the place of 1", 1, x.countryOf(1, 6));
        Checks.dueRefusal("paint(2, 2) without pots", 4, 1, x, () -> x.paint(2, 2));
        x.pots(2, 2);
        Checks.dueRefusal("paint(3, 2) with 2 pots", 4, 7, x, () -> x.paint(3, 2));
        Checks.due("paint(2, 2) with 2 pots", 3, x.paint(2, 2));
        Checks.due("the pots of hue 2 then", 1, x.hueOf(2, 0));
    }

    private static void promise10OrderOfReasons() {
        FlagHues x = Checks.withSizes(1, 1, 9, 1);
        x.border(2, 1);
        x.border(2, 3);
        x.border(2, 0);
        x.paint(3, 0);
        x.paint(1, 0);
        Checks.dueRefusal("painted, in its own hue", 2, 0, x, () -> x.paint(1, 0));
        Checks.dueRefusal("painted, hue 4 cannot be used", 2, 0, x, () -> x.paint(3, 4));
        Checks.dueRefusal("hue 3 cannot be used", 10, 3, x, () -> x.paint(0, 3));
        Checks.dueRefusal("two neighbours have it, too few pots", 3, 1, x, () -> x.paint(2, 0));
        Checks.dueThrowWithoutChange("a neighbour has it", UnsupportedOperationException.class, x,
                () -> x.paint(2, 0));
        x.back();
        Checks.dueRefusal("one neighbour has it", 3, 3, x, () -> x.paint(2, 0));
        x.back();
        Checks.dueRefusal("the pots did not come back", 4, 2, x, () -> x.paint(2, 0));
        x.hues(5);
        Checks.due("hue 3 can be used", 1, x.paint(0, 3));
        Checks.due("no neighbour has hue 3", 2, x.paint(1, 3));
        x.pots(0, 50);
        Checks.due("pots were brought", 3, x.paint(2, 0));
    }

    private static void promise11Bars() {
        FlagHues x = Checks.withSizes(5, 5, 5);
        x.border(0, 1);
        x.paint(0, 1);
        Checks.due("bars(0, 3): painted", 2, x.bars(0, 3));
        Checks.due("bars(1, 3): not usable", 10, x.bars(1, 3));
        Checks.due("bars(1, 1): a neighbour", 3, x.bars(1, 1));
        Checks.due("bars(2, 1): too few pots", 4, x.bars(2, 1));
        Checks.due("bars(1, 0)", 0, x.bars(1, 0));
        Checks.dueThrow("bars(3, 0)", OUTSIDE, () -> x.bars(3, 0));
        Checks.dueThrow("bars(0, 5)", OUTSIDE, () -> x.bars(0, 5));
        Checks.dueThrow("bars(-1, 0)", OUTSIDE, () -> x.bars(-1, 0));
        Checks.dueThrow("bars(0, -1)", OUTSIDE, () -> x.bars(0, -1));
        Checks.dueThrow("refusal after bars alone", NONE_SUCH, () -> x.refusal(true));
        Checks.due("the steps stay", 1, x.account(5));
    }

    private static void promise12Back() {
        FlagHues x = Checks.withSizes(4, 2);
        Checks.dueRefusal("back() without steps", 8, 0, x, x::back);
        Checks.due("no change by that", 2, x.account(12));
        x.paint(1, 0);
        x.paint(0, 1);
        Checks.due("back()", 0, x.back());
        Checks.due("the hue then", -1, x.countryOf(0, 1));
        Checks.due("the place then", -1, x.countryOf(0, 6));
        Checks.due("the pots do not come back", 5, x.hueOf(1, 0));
        Checks.due("the used pots stay", 4, x.hueOf(1, 3));
        Checks.due("back() again", 1, x.back());
        Checks.due("the steps", 0, x.account(5));
        Checks.due("paint was taken off", 2, x.account(8));
        Checks.dueRefusal("back() after all", 8, 0, x, x::back);
    }

    private static void promise13Fill() {
        FlagHues x = Checks.complete(3);
        Checks.due("fill() when all have three hues", 0, x.fill());
        Checks.due("it is a change", 7, x.account(12));
        x.paint(0, 1);
        Checks.due("fill() when two have two hues", 0, x.fill());
        x.paint(2, 0);
        Checks.due("fill() when one has one hue", 1, x.fill());
        Checks.due("its hue", 2, x.countryOf(1, 1));
        Checks.due("its step", 2, x.countryOf(1, 6));
        Checks.due("fill() when all are painted", 0, x.fill());
        x.undo();
        x.undo();
        Checks.due("one undo takes it away", 2, x.account(3));
    }

    private static void promise13FillTakesTheLowest() {
        FlagHues x = Checks.withSizes(5, 5, 4, 9);
        x.hues(1);
        x.border(3, 0);
        Checks.due("one hue: 0, then 2; 1 and 3 are stuck", 2, x.fill());
        Checks.due("the first step", 0, x.step(0));
        Checks.due("the second step", 2, x.step(1));
        Checks.due("the used pots", 9, x.account(7));
        Checks.due("the stuck ones", 2, x.account(4));
        FlagHues chain = Checks.withSizes(1, 1, 1, 1);
        chain.hues(2);
        chain.border(3, 2);
        chain.border(2, 1);
        chain.border(1, 0);
        chain.paint(3, 1);
        Checks.due("one leads to the next", 3, chain.fill());
        Checks.due("the chain's steps", "3210", "" + chain.step(0) + chain.step(1) + chain.step(2) + chain.step(3));
        Checks.due("the chain's end", 0, chain.countryOf(0, 1));
        FlagHues five = Checks.complete(5);
        five.hues(5);
        for (int i = 0; i < 4; i++) {
            five.paint(i, i);
        }
        Checks.due("the last of five hues", 1, five.fill());
        Checks.due("it is hue 4", 4, five.countryOf(4, 1));
        FlagHues empty = new FlagHues();
        Checks.due("fill() without countries", 0, empty.fill());
        Checks.due("it is a change too", 1, empty.account(12));
    }

    private static void promise14Step() {
        FlagHues x = Checks.withSizes(1, 1, 1);
        Checks.dueThrow("step(0) without steps", NONE_SUCH, () -> x.step(0));
        x.paint(2, 0);
        x.paint(0, 0);
        Checks.due("step(0)", 2, x.step(0));
        Checks.due("step(1)", 0, x.step(1));
        Checks.dueThrow("step(2)", NONE_SUCH, () -> x.step(2));
        Checks.dueThrow("step(-1)", NONE_SUCH, () -> x.step(-1));
        Checks.dueThrow("step(7)", NONE_SUCH, () -> x.step(7));
        x.back();
        Checks.dueThrow("step(1) after a step back", NONE_SUCH, () -> x.step(1));
    }

    private static void promise15Stuck() {
        FlagHues x = Checks.withSizes(1, 9, 9);
        Checks.dueThrow("stuck() when none is", NONE_SUCH, x::stuck);
        x.hues(1);
        x.paint(0, 0);
        Checks.due("stuck() for want of pots", 1, x.stuck());
        x.pots(0, 1);
        Checks.dueThrow("stuck() with just enough pots", NONE_SUCH, x::stuck);
        x.border(2, 0);
        Checks.due("stuck() by a neighbour", 2, x.stuck());
        x.hues(2);
        Checks.dueThrow("stuck() with a second hue", NONE_SUCH, x::stuck);
        Checks.dueThrow("stuck() without countries", NONE_SUCH, () -> new FlagHues().stuck());
    }

    private static void promise16Next() {
        Checks.dueThrow("next() without countries", NONE_SUCH, () -> new FlagHues().next());
        FlagHues x = Checks.withSizes(1, 1, 1, 1, 1);
        Checks.due("next() when all are alike", 0, x.next());
        x.border(2, 3);
        Checks.due("next() takes one with a neighbour, the lower", 2, x.next());
        x.border(3, 4);
        Checks.due("next() takes the most neighbours", 3, x.next());
        x.paint(0, 0);
        x.border(0, 1);
        Checks.due("next() takes the fewest free hues first", 1, x.next());
        x.erase(0, 1);
        x.paint(4, 0);
        x.erase(3, 4);
        Checks.due("painted neighbours do not count", 2, x.next());
        x.hues(1);
        Checks.due("next() with one hue", 2, x.next());
        x.border(4, 1);
        Checks.due("next() takes a stuck one", 1, x.next());
        FlagHues y = Checks.withSizes(1, 1, 1, 1);
        y.border(0, 1);
        y.border(2, 1);
        y.border(2, 3);
        y.paint(1, 0);
        Checks.due("a neighbour that is painted is no tie-breaker", 2, y.next());
        y.paint(2, 1);
        y.paint(0, 2);
        y.paint(3, 2);
        Checks.dueThrow("next() when all are painted", NONE_SUCH, y::next);
    }

    private static void promise17Gentle() {
        FlagHues x = Checks.withSizes(2, 3, 4, 2, 1);
        Checks.due("gentle(0) without neighbours", 0, x.gentle(0));
        x.border(0, 1);
        x.border(0, 2);
        Checks.due("gentle(0) when all are alike", 0, x.gentle(0));
        x.border(1, 3);
        x.paint(3, 0);
        Checks.due("hue 0 robs only one neighbour", 0, x.gentle(0));
        x.back();
        x.paint(3, 1);
        Checks.due("hue 1 robs only one neighbour", 1, x.gentle(0));
        x.border(2, 4);
        x.paint(4, 2);
        Checks.due("hues 1 and 2 rob one each", 1, x.gentle(0));
        x.border(1, 4);
        Checks.due("hue 2 robs none", 2, x.gentle(0));
        x.hues(4);
        Checks.due("hue 3 robs two", 2, x.gentle(0));
        Checks.dueThrow("gentle(5)", OUTSIDE, () -> x.gentle(5));
        Checks.dueThrow("gentle(-1)", OUTSIDE, () -> x.gentle(-1));
        Checks.dueThrow("gentle(3), painted", NONE_SUCH, () -> x.gentle(3));
        FlagHues y = Checks.withSizes(1, 9, 9);
        y.border(1, 2);
        y.paint(0, 0);
        Checks.due("a neighbour that lacks pots is not robbed", 1, y.gentle(1));
        y.back();
        y.hues(1);
        Checks.dueThrow("gentle(1), stuck", NONE_SUCH, () -> y.gentle(1));
        Checks.due("gentle(0), it can be painted", 0, y.gentle(0));
    }

    private static void promises10To17OfAFullMap() {
        FlagHues x = Checks.withSizes(1, 1, 1, 1, 1, 1, 1);
        x.border(0, 6);
        Checks.dueThrow("stuck() of a full map", NONE_SUCH, x::stuck);
        Checks.due("next() of a full map", 0, x.next());
        Checks.due("gentle(0) of a full map", 0, x.gentle(0));
        Checks.due("fill() of a full map", 0, x.fill());
        x.border(1, 6);
        x.paint(1, 0);
        x.border(6, 5);
        x.erase(0, 6);
        x.border(0, 5);
        Checks.due("hue 0 robs country 0, and not 6", 0, x.gentle(5));
        x.hues(2);
        Checks.due("two hues: 6, then 5, then 0", 3, x.fill());
        x.hues(2);
        x.paint(2, 0);
        x.paint(3, 0);
        Checks.due("the seventh step", 7, x.paint(4, 1));
        Checks.due("step(6)", 4, x.step(6));
        Checks.due("fill() when all seven are painted", 0, x.fill());
        Checks.dueThrow("stuck() when all seven are painted", NONE_SUCH, x::stuck);
        Checks.dueThrow("next() when all seven are painted", NONE_SUCH, x::next);
        int[] order = {4, 3, 2, 0, 5, 6, 1};
        for (int country : order) {
            Checks.due("back() of a full map", country, x.back());
        }
        Checks.dueRefusal("an eighth back()", 8, 0, x, x::back);
        FlagHues y = Checks.withSizes(9, 1);
        y.hues(1);
        y.paint(1, 0);
        Checks.due("stuck() when it is country 0", 0, y.stuck());
        FlagHues z = Checks.withSizes(1, 1, 1);
        z.border(0, 1);
        z.border(0, 2);
        z.paint(2, 1);
        Checks.due("hue 0 robs country 0, hue 1 does not", 1, z.gentle(1));
    }
}
