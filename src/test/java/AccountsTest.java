/** Promises 31 to 37: accounts, isWell, means, undo and the snapshot. */
public final class AccountsTest {
    private static final Class<IllegalStateException> BAD_STATE = IllegalStateException.class;

    public static void main(String[] args) {
        Checks.runTestsOf(AccountsTest.class);
    }

    private static void promise31Account() {
        FlagHues x = Checks.withSizes(3, 4, 9, 2);
        x.border(0, 1);
        x.border(1, 2);
        x.hues(2);
        x.paint(0, 0);
        x.paint(3, 1);
        x.back();
        x.paint(3, 1);
        x.wish(0, 0, 2);
        x.wish(3, 0, 5);
        x.append('z');
        int[] want = {4, 2, 2, 2, 1, 2, 38, 7, 1, 2, 1, 1, 8};
        for (int what = 0; what <= 12; what++) {
            Checks.due("account(" + what + ")", want[what], x.account(what));
        }
        Checks.dueThrow("account(13)", IllegalArgumentException.class, () -> x.account(13));
        Checks.dueThrow("account(-1)", IllegalArgumentException.class, () -> x.account(-1));
    }

    private static void promise32IsWell() {
        FlagHues x = Checks.complete(4);
        Checks.due("isWell() when none is painted", true, x.isWell());
        x.paint(3, 0);
        x.paint(1, 2);
        Checks.due("isWell() when two are painted", true, x.isWell());
        x.back();
        x.fill();
        x.undo();
        x.undo();
        Checks.due("isWell() after undo", true, x.isWell());
        x.fill();
        Checks.due("isWell() after fill", true, x.isWell());
    }

    private static void promise33MeanSize() {
        FlagHues x = Checks.withSizes(1, 2, 8, 9);
        Checks.dueThrow("meanSize() when none is painted", ArithmeticException.class, x::meanSize);
        x.paint(1, 0);
        Checks.due("meanSize() of one", 2.0, x.meanSize());
        x.paint(3, 1);
        Checks.due("meanSize() of two", 5.5, x.meanSize());
        x.paint(0, 0);
        Checks.due("meanSize() of three", 4.0, x.meanSize());
        x.paint(2, 2);
        Checks.due("meanSize() of four", 5.0, x.meanSize());
        FlagHues y = Checks.withSizes(1, 2, 2, 9);
        y.paint(0, 0);
        y.paint(1, 0);
        y.paint(2, 0);
        Checks.due("meanSize() as a quotient of doubles", 5.0 / 3.0, y.meanSize());
    }

    private static void promise34Painted() {
        FlagHues x = new FlagHues();
        Checks.dueThrow("painted() without countries", ArithmeticException.class, x::painted);
        x.country(1);
        Checks.due("painted() when none is", 0.0f, x.painted());
        x.paint(0, 0);
        Checks.due("painted() when all are", 1.0f, x.painted());
        x.country(1);
        x.country(1);
        Checks.due("painted() when one of three is", 1.0f / 3.0f, x.painted());
    }

    private static void promise35Undo() {
        FlagHues x = new FlagHues();
        Checks.dueThrow("undo() at first", BAD_STATE, x::undo);
        x.country(5);
        x.country(6);
        x.paint(0, 0);
        Checks.due("undo() of paint", 2, x.undo());
        Checks.due("the hue", -1, x.countryOf(0, 1));
        Checks.due("the pots come back by undo", 9, x.hueOf(0, 0));
        Checks.due("the used pots too", 0, x.hueOf(0, 3));
        Checks.due("no paint was taken off by undo", 0, x.account(8));
        Checks.due("undo() of country", 1, x.undo());
        Checks.due("one country", 1, x.account(0));
        Checks.due("a new country has its number", 1, x.country(7));
        Checks.due("and its own size", 7, x.countryOf(1, 0));
        x.undo();
        Checks.due("undo() of the last", 0, x.undo());
        Checks.dueThrow("undo() when nothing is left", BAD_STATE, x::undo);
        Checks.due("no countries", 0, x.account(0));
    }

    private static void promise35UndoOfEachChange() {
        for (int i = 0; i < 12; i++) {
            FlagHues x = Checks.withSizes(2, 3, 4);
            x.border(0, 1);
            x.paint(2, 1);
            String before = Checks.pictureOf(x);
            changeOf(i, x).answer();
            Checks.due("the changes after change " + i, 6, x.account(12));
            Checks.due("undo() of change " + i, 5, x.undo());
            Checks.due("the map after undo of change " + i, before, Checks.pictureOf(x));
        }
    }

    private static Checks.Call changeOf(int kind, FlagHues x) {
        Checks.Call[] changes = {() -> x.country(9), () -> x.border(1, 2), () -> x.erase(1, 0), () -> x.hues(4),
            () -> x.hues(3), () -> x.pots(3, 7), () -> x.paint(1, 0), x::back, x::fill, () -> x.wish(0, 1, 6),
            () -> Checks.read(x, "f"), () -> Checks.read(x, "x;p2=0;h5;j0+9;w1=1*1;b2-1")};
        return changes[kind];
    }

    private static void promise35UndoOfTheOrderOfSteps() {
        FlagHues x = Checks.withSizes(1, 1);
        x.paint(1, 0);
        x.paint(0, 1);
        Checks.read(x, "x;x;p0=0;p1=2");
        Checks.due("the first step", 0, x.step(0));
        x.undo();
        Checks.due("the first step after undo()", 1, x.step(0));
        Checks.due("the second step after undo()", 0, x.step(1));
        x.back();
        x.back();
        x.paint(0, 2);
        x.undo();
        x.undo();
        Checks.due("the first step after more of it", 1, x.step(0));
    }

    private static void promise35OnlyEightAreUndone() {
        FlagHues x = new FlagHues();
        for (int i = 1; i <= 20; i++) {
            x.pots(0, 1);
            Checks.due("changes to undo after " + i, Math.min(i, 8), x.account(12));
        }
        for (int left = 7; left >= 0; left--) {
            Checks.due("undo()", left, x.undo());
            Checks.due("the pots then", 21 + left, x.hueOf(0, 0));
        }
        Checks.dueThrow("a ninth undo()", BAD_STATE, x::undo);
        x.hues(2);
        x.hues(1);
        Checks.due("undo() of the first after that", 1, x.undo());
        Checks.due("the hues then", 2, x.account(2));
    }

    private static void promise36Save() {
        FlagHues x = new FlagHues();
        Checks.due("save() without countries", 0, x.save());
        x.country(1);
        x.country(2);
        Checks.due("save() of two", 2, x.save());
        Checks.due("save() is no change", 2, x.account(12));
        x.country(3);
        Checks.due("restore() takes the later one", 2, x.restore());
    }

    private static void promise37Restore() {
        FlagHues x = Checks.withSizes(2, 3);
        Checks.dueThrowWithoutChange("restore() without a snapshot", BAD_STATE, x, x::restore);
        Checks.read(x, "b0-1;p0=2;p1=1;x;w1=3*4;h4;j0+5");
        x.save();
        String before = Checks.pictureOf(x).replaceFirst("3 \\|", "0 |");
        Checks.read(x, "p1=3;x;x;w0=0*1;h5;j1+5;p0=0");
        x.erase(0, 1);
        x.country(9);
        Checks.due("restore()", 2, x.restore());
        Checks.due("the map then, with nothing to undo", before, Checks.pictureOf(x));
        Checks.dueThrow("undo() after restore()", BAD_STATE, x::undo);
        x.back();
        Checks.due("changes are kept again", 0, x.undo());
        x.back();
        x.undo();
        x.country(4);
        Checks.due("the snapshot stays", 2, x.restore());
        Checks.due("the map after the second restore()", before, Checks.pictureOf(x));
    }

    private static void promise37RestoreOfSizesAndSteps() {
        FlagHues x = Checks.withSizes(3, 4);
        x.wish(1, 2, 8);
        x.paint(1, 0);
        x.paint(0, 1);
        x.save();
        for (int i = 0; i < 5; i++) {
            x.undo();
        }
        x.country(8);
        x.country(9);
        x.pots(2, 50);
        x.paint(0, 2);
        x.paint(1, 2);
        Checks.due("restore()", 2, x.restore());
        Checks.due("the size of 0", 3, x.countryOf(0, 0));
        Checks.due("the size of 1", 4, x.countryOf(1, 0));
        Checks.due("the wish of 1", 2, x.countryOf(1, 4));
        Checks.due("the crown of 1", 8, x.countryOf(1, 5));
        Checks.due("the first step", 1, x.step(0));
        Checks.due("the second step", 0, x.step(1));
        Checks.due("the pots of hue 2", 9, x.hueOf(2, 0));
    }

    private static void promise31And32OfAFullMap() {
        FlagHues x = Checks.withSizes(1, 2, 3, 4, 5, 6, 7);
        x.border(0, 6);
        x.hues(1);
        x.paint(6, 0);
        int[] want = {7, 1, 1, 1, 5, 1, 38, 7, 0, 2, 1, 0, 8};
        x.wish(6, 0, 1);
        x.wish(0, 0, 1);
        for (int what = 0; what <= 12; what++) {
            Checks.due("account(" + what + ") of a full map", want[what], x.account(what));
        }
        Checks.due("isWell() of a full map", true, x.isWell());
        Checks.due("meanSize() of a full map", 7.0, x.meanSize());
        Checks.due("painted() of a full map", 1.0f / 7.0f, x.painted());
    }
}
