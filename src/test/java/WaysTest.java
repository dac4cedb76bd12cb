import java.util.NoSuchElementException;

/** Promises 18 to 26: wishes, ways, the fewest hues, cliques and the line. */
public final class WaysTest {
    private static final Class<NoSuchElementException> NONE_SUCH = NoSuchElementException.class;
    private static final Class<IndexOutOfBoundsException> OUTSIDE = IndexOutOfBoundsException.class;
    private static final Class<IllegalArgumentException> ILLEGAL = IllegalArgumentException.class;

    public static void main(String[] args) {
        Checks.runTestsOf(WaysTest.class);
    }

    private static void promise18Wish() {
        FlagHues x = Checks.withSizes(1, 1);
        Checks.dueThrow("wish(2, 0, 0)", OUTSIDE, () -> x.wish(2, 0, 0));
        Checks.dueThrow("wish(-1, 0, 0)", OUTSIDE, () -> x.wish(-1, 0, 0));
        Checks.dueThrow("wish(0, 5, 10)", OUTSIDE, () -> x.wish(0, 5, 10));
        Checks.dueThrow("wish(0, -1, 0)", OUTSIDE, () -> x.wish(0, -1, 0));
        Checks.dueThrow("wish(0, 0, 10)", ILLEGAL, () -> x.wish(0, 0, 10));
        Checks.dueThrowWithoutChange("wish(0, 0, -1)", ILLEGAL, x, () -> x.wish(0, 0, -1));
        Checks.due("wish(0, 4, 9) for a hue that cannot be used", -1, x.wish(0, 4, 9));
        Checks.due("wish(0, 1, 0)", 4, x.wish(0, 1, 0));
        Checks.due("the crown is replaced too", 0, x.countryOf(0, 5));
        Checks.due("wish(0, 1, 3), the same hue", 1, x.wish(0, 1, 3));
        Checks.due("the crown then", 3, x.countryOf(0, 5));
        Checks.due("one wish", 1, x.account(9));
        Checks.due("the other has none", -1, x.countryOf(1, 4));
        Checks.due("wish(1, 0, 0)", -1, x.wish(1, 0, 0));
        Checks.due("two wishes", 2, x.account(9));
    }

    private static void promise19Fulfilled() {
        FlagHues x = Checks.withSizes(1, 1, 1, 1);
        Checks.due("fulfilled() without wishes", 0, x.fulfilled());
        x.wish(0, 0, 4);
        x.wish(1, 0, 9);
        x.wish(2, 0, 0);
        Checks.due("fulfilled() when none is painted", 0, x.fulfilled());
        x.paint(0, 0);
        Checks.due("one fulfilled", 4, x.fulfilled());
        x.paint(1, 1);
        x.paint(2, 0);
        x.paint(3, 0);
        Checks.due("another hue, a crown of 0, no wish", 4, x.fulfilled());
        Checks.due("how many are fulfilled", 2, x.account(10));
        x.wish(1, 1, 9);
        Checks.due("wished when painted", 13, x.fulfilled());
        x.back();
        x.back();
        x.back();
        Checks.due("after steps back", 4, x.fulfilled());
        FlagHues y = Checks.withSizes(1, 1, 1, 1, 1, 1, 1);
        y.wish(6, 1, 9);
        y.wish(0, 1, 8);
        y.paint(6, 1);
        y.paint(0, 1);
        Checks.due("fulfilled() of a full map", 17, y.fulfilled());
    }

    private static void dueWays(String map, int want, FlagHues x) {
        Checks.due("ways() " + map, want, x.ways());
        Checks.due("waysAgain() " + map, want, x.waysAgain());
    }

    private static void promises20And21Ways() {
        FlagHues x = new FlagHues();
        dueWays("without countries", 1, x);
        x.country(9);
        dueWays("of one country", 3, x);
        x.country(9);
        x.border(0, 1);
        dueWays("of two neighbours", 6, x);
        x.hues(1);
        dueWays("of two neighbours with one hue", 0, x);
        x.hues(2);
        dueWays("of two neighbours with two hues", 2, x);
        x.paint(0, 0);
        dueWays("beside a painted one", 1, x);
        x.paint(1, 1);
        dueWays("when all are painted", 1, x);
        x.country(9);
        Checks.due("it is stuck for want of pots", 2, x.stuck());
        dueWays("without pots", 2, x);
        x.border(0, 2);
        dueWays("without pots beside hue 0", 1, x);
        x.border(1, 2);
        dueWays("without pots beside both hues", 0, x);
        x.hues(5);
        dueWays("with five hues beside two", 3, x);
        FlagHues y = Checks.withSizes(1, 1, 1);
        y.hues(1);
        dueWays("of three with one hue", 1, y);
        y.paint(0, 0);
        dueWays("of two with one hue", 1, y);
        y.border(2, 0);
        dueWays("with one hue beside it", 0, y);
    }

    private static void promises20And21WaysOfKnownMaps() {
        FlagHues none = Checks.withSizes(1, 1, 1, 1, 1, 1, 1);
        dueWays("of seven without borders, 3 hues", 2187, none);
        none.hues(5);
        dueWays("of seven without borders, 5 hues", 78125, none);
        none.paint(6, 0);
        none.paint(5, 0);
        none.paint(0, 0);
        dueWays("of four that are left, 5 hues", 625, none);
        FlagHues all = Checks.complete(5);
        all.hues(5);
        dueWays("of five that all are neighbours", 120, all);
        all.paint(2, 3);
        dueWays("of four that all are neighbours, beside hue 3", 24, all);
        FlagHues ring = Checks.withSizes(1, 1, 1, 1, 1, 1, 1);
        for (int i = 0; i < 7; i++) {
            ring.border(i, i == 6 ? 0 : i + 1);
        }
        ring.hues(4);
        dueWays("of a ring of seven, 4 hues: 3^7 - 3", 2184, ring);
        FlagHues star = Checks.withSizes(1, 1, 1, 1, 1, 1, 1);
        for (int i = 0; i < 6; i++) {
            star.border(i, 6);
        }
        star.hues(5);
        dueWays("of a star round country 6, 5 hues: 5 * 4^6", 20480, star);
        FlagHues path = Checks.withSizes(1, 1, 1, 1, 1);
        path.border(0, 2);
        path.border(2, 4);
        path.border(4, 1);
        path.border(1, 3);
        dueWays("of a path of five, 3 hues: 3 * 2^4", 48, path);
        path.paint(4, 1);
        dueWays("of a path with a painted middle: 4 * 4", 16, path);
    }

    private static void promise22WaysFor() {
        FlagHues x = Checks.complete(3);
        Checks.dueThrow("waysFor(3)", OUTSIDE, () -> x.waysFor(3));
        Checks.dueThrow("waysFor(-1)", OUTSIDE, () -> x.waysFor(-1));
        Checks.dueThrow("waysFor(0) without a wish", NONE_SUCH, () -> x.waysFor(0));
        x.wish(0, 2, 0);
        Checks.due("a third of 6 ways", 2, x.waysFor(0));
        x.country(1);
        Checks.due("times 3", 6, x.waysFor(0));
        x.wish(0, 3, 0);
        Checks.due("a hue that cannot be used", 0, x.waysFor(0));
        x.hues(4);
        Checks.due("a hue that can be used: 3 * 2 * 4", 24, x.waysFor(0));
        x.paint(1, 3);
        Checks.due("a neighbour has it", 0, x.waysFor(0));
        Checks.dueThrow("waysFor(1), painted, without a wish", NONE_SUCH, () -> x.waysFor(1));
        x.wish(1, 3, 5);
        Checks.due("painted as wished: all ways", x.ways(), x.waysFor(1));
        Checks.due("all ways: 3 * 2 * 4", 24, x.waysFor(1));
        x.wish(1, 0, 5);
        Checks.due("painted, not as wished", 0, x.waysFor(1));
        FlagHues y = Checks.complete(4);
        y.wish(2, 0, 1);
        Checks.due("no way at all", 0, y.waysFor(2));
        y.wish(3, 1, 1);
        y.hues(5);
        Checks.due("other wishes do not matter: 4 * 3 * 2", 24, y.waysFor(2));
        Checks.due("the map stays as it is", 120, y.ways());
        FlagHues z = Checks.withSizes(9, 9);
        z.paint(0, 0);
        z.wish(1, 0, 1);
        Checks.due("pots do not matter", 1, z.waysFor(1));
    }

    private static void promise23Fewest() {
        FlagHues x = new FlagHues();
        Checks.due("fewest() without countries", 1, x.fewest());
        x.country(1);
        Checks.due("fewest() of one country", 1, x.fewest());
        x.paint(0, 2);
        Checks.due("hue 2 must be usable", 3, x.fewest());
        x.back();
        x.hues(1);
        x.country(1);
        x.border(0, 1);
        Checks.due("whatever can be used now", 2, x.fewest());
        for (int many = 3; many <= 5; many++) {
            FlagHues all = Checks.complete(many);
            Checks.due("fewest() of " + many + " neighbours", many, all.fewest());
        }
        FlagHues six = Checks.complete(6);
        Checks.dueThrow("fewest() of six neighbours", NONE_SUCH, six::fewest);
        FlagHues ring = Checks.withSizes(1, 1, 1, 1, 1);
        for (int i = 0; i < 5; i++) {
            ring.border(i, i == 4 ? 0 : i + 1);
        }
        Checks.due("fewest() of a ring of five", 3, ring.fewest());
        ring.erase(0, 4);
        Checks.due("fewest() of a path of five", 2, ring.fewest());
        ring.paint(0, 0);
        ring.paint(4, 1);
        Checks.due("fewest() of a path with two ends of one kind", 3, ring.fewest());
        FlagHues high = Checks.withSizes(1, 1, 1, 1, 1, 1, 1);
        high.paint(0, 2);
        high.paint(6, 1);
        Checks.due("the highest hue is not the last country's", 3, high.fewest());
        FlagHues done = Checks.withSizes(1, 1);
        done.hues(5);
        done.paint(1, 4);
        done.paint(0, 0);
        Checks.due("all painted, up to hue 4", 5, done.fewest());
    }

    private static void promise24Clique() {
        Checks.due("clique() without countries", 0, new FlagHues().clique());
        FlagHues x = Checks.withSizes(1, 1, 1, 1, 1, 1, 1);
        Checks.due("clique() without borders", 1, x.clique());
        x.border(6, 0);
        Checks.due("clique() with a border", 2, x.clique());
        x.border(6, 3);
        Checks.due("clique() of a path", 2, x.clique());
        x.border(0, 3);
        Checks.due("clique() of a triangle", 3, x.clique());
        x.border(5, 0);
        x.border(5, 3);
        Checks.due("clique() of two triangles", 3, x.clique());
        x.border(5, 6);
        Checks.due("clique() of four", 4, x.clique());
        x.erase(0, 6);
        Checks.due("clique() after an erasure", 3, x.clique());
        Checks.due("clique() of seven", 7, Checks.complete(7).clique());
        FlagHues painted = Checks.complete(3);
        painted.paint(0, 0);
        Checks.due("clique() with a painted one", 3, painted.clique());
    }

    private static void promise25Line() {
        FlagHues x = Checks.withSizes(1, 9, 9, 2, 1, 1, 1);
        Checks.dueThrow("line(7)", OUTSIDE, () -> x.line(7));
        Checks.dueThrow("line(-1)", OUTSIDE, () -> x.line(-1));
        Checks.due("the line of a lonely country", "0:-()", Checks.lineOf(x, 0));
        x.border(6, 2);
        x.border(2, 0);
        Checks.due("the line of a country with neighbours", "2:-(0,6)", Checks.lineOf(x, 2));
        x.paint(0, 2);
        Checks.due("the line of a painted country", "0:2(2)", Checks.lineOf(x, 0));
        x.paint(3, 0);
        x.paint(4, 1);
        Checks.due("the line of a stuck country", "2:-(0,6)!", Checks.lineOf(x, 2));
        Checks.due("the line of another stuck one", "1:-()!", Checks.lineOf(x, 1));
        FlagHues all = Checks.complete(7);
        all.paint(0, 0);
        all.paint(1, 1);
        all.paint(2, 2);
        Checks.due("the longest line", "6:-(0,1,2,3,4,5)!", Checks.lineOf(all, 6));
        Checks.due("its length", 17, all.line(6));
        Checks.due("painted, with all neighbours", "1:1(0,2,3,4,5,6)", Checks.lineOf(all, 1));
    }

    private static void promise26Character() {
        FlagHues x = Checks.withSizes(1, 1, 1);
        Checks.dueThrow("character(0) of the empty line", OUTSIDE, () -> x.character(0));
        x.border(0, 1);
        x.border(0, 2);
        x.line(0);
        Checks.due("character(0)", '0', x.character(0));
        Checks.due("character(7)", ')', x.character(7));
        Checks.dueThrow("character(8)", OUTSIDE, () -> x.character(8));
        Checks.dueThrow("character(-1)", OUTSIDE, () -> x.character(-1));
        x.paint(0, 1);
        Checks.due("the line stays as it was written", '-', x.character(2));
        x.line(1);
        Checks.dueThrow("a shorter line replaces it", OUTSIDE, () -> x.character(6));
        Checks.dueThrow("line(3)", OUTSIDE, () -> x.line(3));
        Checks.due("a refused call leaves it", '1', x.character(0));
        x.save();
        x.restore();
        Checks.due("restore leaves it", ')', x.character(5));
        x.paint(1, 0);
        x.undo();
        Checks.due("undo leaves it", '(', x.character(3));
    }
}
