import java.lang.reflect.Field;

/** The edges of promises 31 to 37; each test stands below the words of the document that it holds to. */
public final class AccountsEdgesTest {
    private static final Class<IllegalArgumentException> ILLEGAL = IllegalArgumentException.class;
    private static final Class<IllegalStateException> BAD_STATE = IllegalStateException.class;
    private static final Class<ArithmeticException> ARITHMETIC = ArithmeticException.class;
    private static final int LOW = Integer.MIN_VALUE;
    private static final int HIGH = Integer.MAX_VALUE;

    public static void main(String[] args) {
        Checks.runTestsOf(AccountsEdgesTest.class);
    }

    // "Throws IllegalArgumentException if what is not from 0 to 12"
    private static void promise31WhatOutOfRange() {
        for (int what : new int[] {-1, 13, LOW, HIGH}) {
            Checks.dueThrowLeavingAll("account(" + what + ")", ILLEGAL, () -> various(), x -> x.account(what));
            Checks.dueThrowLeavingAll("account(" + what + ") without countries", ILLEGAL, FlagHues::new,
                    x -> x.account(what));
        }
    }

    private static void promise31EachIsAQuestion() {
        int[] want = {4, 2, 2, 2, 1, 2, 32, 14, 1, 2, 1, 4, 8};
        for (int what = 0; what <= 12; what++) {
            int asked = what;
            Checks.dueLeavingAll("account(" + what + ")", want[what], () -> various(), x -> x.account(asked));
        }
    }

    // Of a new map: nothing there yet.
    private static void promise31TheLeast() {
        int[] want = {0, 0, 3, 0, 0, 0, 45, 0, 0, 0, 0, 0, 0};
        for (int what = 0; what <= 12; what++) {
            Checks.due("account(" + what + ") of a new map", want[what], new FlagHues().account(what));
        }
        FlagHues x = new FlagHues();
        x.hues(1);
        Checks.due("the fewest hues", 1, x.account(2));
        FlagHues used = Checks.withSizes(9, 9, 9, 9, 9);
        used.hues(5);
        for (int country = 0; country < 5; country++) {
            used.paint(country, country);
        }
        Checks.due("no pot is left of any hue", 0, used.account(6));
        Checks.due("all were used", 45, used.account(7));
    }

    // 7 countries, 21 borders, 5 hues, 7 steps, 5 times 99 pots, 7 wishes, 60 characters, 8 changes
    private static void promise31TheMost() {
        FlagHues x = Checks.complete(7);
        Checks.due("the countries", 7, x.account(0));
        Checks.due("the borders", 21, x.account(1));
        Checks.due("the hues", 3, x.hues(5));
        Checks.due("the hues then", 5, x.account(2));
        FlagHues y = Checks.full();
        for (int country = 0; country < 7; country++) {
            y.wish(country, 2, 1);
            y.paint(country, 2);
        }
        Checks.due("the painted ones", 7, y.account(3));
        Checks.due("none is stuck", 0, y.account(4));
        Checks.due("the steps", 7, y.account(5));
        Checks.due("the wishes", 7, y.account(9));
        Checks.due("the fulfilled ones", 7, y.account(10));
        Checks.due("the changes", 8, y.account(12));
        for (int hue = 0; hue < 5; hue++) {
            y.pots(hue, 50);
            y.pots(hue, 50);
        }
        Checks.due("the pots", 495, y.account(6));
        Checks.type(y, Checks.padded(60, "f"));
        Checks.due("the characters", 60, y.account(11));
    }

    // "4 for those that are stuck": all seven, or those that are not painted
    private static void promise31AllAreStuck() {
        FlagHues x = Checks.withSizes(9, 9, 9, 9, 9, 9, 9);
        x.hues(1);
        Checks.due("none", 0, x.account(4));
        x.paint(3, 0);
        Checks.due("six", 6, x.account(4));
        x.back();
        Checks.due("seven, as the pots do not come back", 7, x.account(4));
        x.pots(0, 8);
        Checks.due("seven, as a pot is missing", 7, x.account(4));
        x.pots(0, 1);
        Checks.due("none again", 0, x.account(4));
    }

    // "9 for the wishes, 10 for those that are fulfilled": with a crown of 0, too
    private static void promise31WishesWithoutACrown() {
        FlagHues x = Checks.full();
        x.wish(0, 0, 0);
        x.wish(6, 4, 0);
        Checks.due("the wishes", 2, x.account(9));
        x.paint(0, 0);
        Checks.due("the fulfilled ones", 1, x.account(10));
        x.wish(0, 0, 0);
        Checks.due("the wishes when one is replaced", 2, x.account(9));
    }

    // "7 for the pots that were used so far, 8 for how often paint was taken off so far"
    private static void promise31SoFar() {
        FlagHues x = Checks.withSizes(2, 3);
        for (int times = 1; times <= 3; times++) {
            x.paint(0, times - 1);
            x.paint(1, times - 1);
            Checks.due("used", 5 * times, x.account(7));
            x.back();
            Checks.read(x, "x");
            Checks.due("used, and taken off", 5 * times, x.account(7));
            Checks.due("taken off", 2 * times, x.account(8));
        }
        Checks.due("no pots came back", 45 - 15, x.account(6));
        Checks.due("fill()", 0, x.fill());
        Checks.due("used by no fill", 15, x.account(7));
        x.hues(1);
        Checks.due("fill() with one hue", 1, x.fill());
        Checks.due("used by fill", 17, x.account(7));
    }

    // What changes can change is undone, the counts so far with it; to undo or to restore takes no paint off.
    private static void promises31And35CountsAreUndone() {
        FlagHues x = Checks.withSizes(2, 3);
        x.save();
        x.paint(0, 0);
        x.undo();
        Checks.due("used after undo", 0, x.account(7));
        Checks.due("taken off after undo of paint", 0, x.account(8));
        x.paint(0, 0);
        x.back();
        Checks.due("taken off", 1, x.account(8));
        x.undo();
        Checks.due("taken off after undo of back", 0, x.account(8));
        Checks.due("the hue is there again", 0, x.countryOf(0, 1));
        Checks.due("the steps", "0", Checks.stepsOf(x));
        x.back();
        x.restore();
        Checks.due("used after restore", 0, x.account(7));
        Checks.due("taken off after restore", 0, x.account(8));
    }

    // "whether all is well": so it is after whatever was done
    private static void promise32AfterAllKindsOfChanges() {
        Checks.dueLeavingAll("isWell() without countries", true, FlagHues::new, FlagHues::isWell);
        Checks.dueLeavingAll("isWell() of a mixed map", true, () -> various(), FlagHues::isWell);
        FlagHues x = Checks.full();
        x.hues(5);
        x.border(0, 6);
        for (int country = 0; country < 7; country++) {
            x.paint(country, (country + 4) % 5);
            Checks.due("isWell() with " + (country + 1) + " painted", true, x.isWell());
        }
        Checks.outcomeOf(() -> x.border(0, 5));
        Checks.due("isWell() after a border that is refused", true, x.isWell());
        x.save();
        for (int left = 6; left >= 0; left--) {
            x.back();
            Checks.due("isWell() with " + left + " painted", true, x.isWell());
        }
        x.restore();
        Checks.due("isWell() after restore", true, x.isWell());
        FlagHues same = Checks.full();
        same.paint(0, 0);
        same.paint(6, 0);
        Checks.due("isWell() with one hue, and no border", true, same.isWell());
        same.border(1, 2);
        Checks.due("isWell() with a border of two that are not painted", true, same.isWell());
    }

    // "no border has one hue on both sides, and the steps are just the countries that are painted": no call can make it
    // otherwise, so the state itself is spoilt here, each time in one way.
    private static void promise32IsNotWell() {
        for (int other : new int[] {0, 2, 6}) {
            FlagHues x = fourSteps();
            hues(x)[4] = hues(x)[other];
            Checks.due("isWell() of " + other + " and 4 in one hue", other == 2, x.isWell());
        }
        for (int country = 0; country < 7; country++) {
            FlagHues x = fourSteps();
            boolean wasPainted = hues(x)[country] >= 0;
            hues(x)[country] = wasPainted ? -1 : 4;
            Checks.due("isWell() when " + country + " is a step or painted alone", false, x.isWell());
        }
        for (int place = 0; place < 4; place++) {
            for (int country = 0; country < 7; country++) {
                FlagHues x = fourSteps();
                boolean isSame = steps(x)[place] == country;
                steps(x)[place] = country;
                Checks.due("isWell() with " + country + " as step " + place, isSame, x.isWell());
            }
        }
    }

    private static void promise32IsNotWellWithAStepTooManyOrTooFew() {
        for (int many = 0; many <= 7; many++) {
            FlagHues x = fourSteps();
            setStepCount(x, many);
            for (int place = 4; place < many; place++) {
                steps(x)[place] = steps(x)[0];
            }
            Checks.due("isWell() with " + many + " steps of 4", many == 4, x.isWell());
        }
    }

    /** Countries 6, 2, 0 and 4 in hues 0 to 3 are the steps; 4 has borders with 0 and 6, and 3 with 1. */
    private static FlagHues fourSteps() {
        FlagHues x = Checks.full();
        x.hues(5);
        x.border(0, 4);
        x.border(4, 6);
        x.border(3, 1);
        int[] order = {6, 2, 0, 4};
        for (int hue = 0; hue < 4; hue++) {
            x.paint(order[hue], hue);
        }
        return x;
    }

    private static int[] hues(FlagHues x) {
        return rowOf(x, "hue");
    }

    private static int[] steps(FlagHues x) {
        return rowOf(x, "steps");
    }

    private static int[] rowOf(FlagHues x, String name) {
        try {
            Object land = landOf(x);
            return (int[]) fieldOf(land.getClass(), name).get(land);
        } catch (ReflectiveOperationException e) {
            throw new IllegalStateException(e);
        }
    }

    private static void setStepCount(FlagHues x, int many) {
        try {
            Object land = landOf(x);
            fieldOf(land.getClass(), "stepCount").setInt(land, many);
        } catch (ReflectiveOperationException e) {
            throw new IllegalStateException(e);
        }
    }

    private static Object landOf(FlagHues x) throws ReflectiveOperationException {
        return fieldOf(FlagHues.class, "now").get(x);
    }

    private static Field fieldOf(Class<?> kind, String name) throws ReflectiveOperationException {
        Field field = kind.getDeclaredField(name);
        field.setAccessible(true);
        return field;
    }

    // "Throws ArithmeticException if there are none"
    private static void promise33NoneIsPainted() {
        Checks.dueThrowLeavingAll("meanSize() without countries", ARITHMETIC, FlagHues::new, FlagHues::meanSize);
        Checks.dueThrowLeavingAll("meanSize() when none is painted", ARITHMETIC,
                () -> Checks.marked(Checks.full(9)), FlagHues::meanSize);
        Checks.dueThrowLeavingAll("meanSize() after back()", ARITHMETIC, () -> {
            FlagHues x = Checks.full(9);
            x.paint(0, 0);
            x.back();
            return Checks.marked(x);
        }, FlagHues::meanSize);
    }

    // "Returns the sum divided by their number, both as doubles."
    private static void promise33FromOneToNine() {
        FlagHues x = Checks.full(9, 1);
        x.paint(1, 0);
        Checks.due("the smallest", 1.0, x.meanSize());
        x.paint(0, 1);
        Checks.due("of two", 5.0, x.meanSize());
        x.paint(6, 2);
        Checks.due("not a whole number", 11.0 / 3.0, x.meanSize());
        FlagHues y = Checks.full(9);
        y.paint(0, 0);
        Checks.due("the largest", 9.0, y.meanSize());
        FlagHues z = Checks.withSizes(2, 1, 1, 1, 1, 1, 1);
        for (int country = 0; country < 7; country++) {
            z.paint(country, 0);
        }
        Checks.dueLeavingAll("of two, as a question", 6.0, () -> various(), FlagHues::meanSize);
        Checks.due("of seven", 8.0 / 7.0, z.meanSize());
    }

    // "Throws ArithmeticException if there are no countries"
    private static void promise34NoCountries() {
        Checks.dueThrowLeavingAll("painted() without countries", ARITHMETIC, FlagHues::new, FlagHues::painted);
        Checks.dueThrowLeavingAll("painted() when the country is undone", ARITHMETIC, () -> {
            FlagHues x = Checks.withSizes(1);
            x.undo();
            return Checks.marked(x);
        }, FlagHues::painted);
    }

    // "Returns their number divided by that of all countries, both as floats."
    private static void promise34FromNoneToAll() {
        FlagHues x = Checks.full();
        for (int many = 0; many < 7; many++) {
            Checks.due("painted() of " + many, (float) many / 7.0f, x.painted());
            x.paint(6 - many, many % 3);
        }
        Checks.due("painted() of all", 1.0f, x.painted());
        FlagHues one = Checks.withSizes(1);
        Checks.due("painted() of none", 0.0f, one.painted());
        Checks.dueLeavingAll("painted(), as a question", 0.5f, () -> various(), FlagHues::painted);
    }

    // "Throws IllegalStateException if no change can be undone"
    private static void promise35NoChange() {
        Checks.dueThrowLeavingAll("undo() of a new map", BAD_STATE, FlagHues::new, FlagHues::undo);
        Checks.dueThrowLeavingAll("undo() after the only change", BAD_STATE, () -> {
            FlagHues x = Checks.withSizes(4);
            x.undo();
            return x;
        }, FlagHues::undo);
        Checks.dueThrowLeavingAll("undo() after restore()", BAD_STATE, () -> {
            FlagHues x = Checks.full(4);
            x.save();
            x.restore();
            return x;
        }, FlagHues::undo);
    }

    // "The latest 8 can be undone": the ninth before is forgotten.
    private static void promise35TheLatestEight() {
        for (int changes = 1; changes <= 20; changes++) {
            FlagHues x = new FlagHues();
            for (int i = 0; i < changes; i++) {
                x.pots(0, i + 1 < 5 ? i + 1 : 1);
            }
            int kept = Math.min(8, changes);
            Checks.due("account(12) after " + changes, kept, x.account(12));
            for (int left = kept - 1; left >= 0; left--) {
                Checks.due("undo() of " + changes, left, x.undo());
            }
            Checks.due("the pots of the first that is forgotten", potsAfter(changes - kept), x.hueOf(0, 0));
            Checks.dueThrow("undo() of what is forgotten", BAD_STATE, x::undo);
        }
    }

    private static int potsAfter(int changes) {
        int pots = 9;
        for (int i = 0; i < changes; i++) {
            pots += i + 1 < 5 ? i + 1 : 1;
        }
        return pots;
    }

    // A change after an undo takes the place of the one that was undone.
    private static void promise35ChangesAfterUndo() {
        FlagHues x = new FlagHues();
        for (int i = 0; i < 10; i++) {
            x.pots(1, 1);
        }
        x.undo();
        x.undo();
        Checks.due("pots(1, 10)", 27, x.pots(1, 10));
        Checks.due("account(12)", 7, x.account(12));
        x.pots(1, 10);
        x.pots(1, 10);
        Checks.due("account(12), full again", 8, x.account(12));
        int[] want = {37, 27, 17, 16, 15, 14, 13, 12};
        for (int i = 0; i < 8; i++) {
            Checks.due("undo()", 7 - i, x.undo());
            Checks.due("the pots", want[i], x.hueOf(1, 0));
        }
        Checks.dueThrow("undo() of no more", BAD_STATE, x::undo);
    }

    // "The changes are the successful calls of country, border, erase, hues, pots, paint, back, fill, wish and read"
    private static void promise35EachKindOfChange() {
        for (int kind = 0; kind < 10; kind++) {
            FlagHues x = small();
            String before = Checks.pictureOf(x);
            changeOf(kind, x).answer();
            Checks.due("it is seen, kind " + kind, false, before.equals(Checks.pictureOf(x)));
            Checks.due("account(12), kind " + kind, 8, x.account(12));
            Checks.due("undo(), kind " + kind, 7, x.undo());
            Checks.due("the map, kind " + kind, before, Checks.pictureOf(x));
        }
    }

    private static Checks.Call changeOf(int kind, FlagHues x) {
        Checks.Call[] changes = {() -> x.country(9), () -> x.border(0, 2), () -> x.erase(1, 0), () -> x.hues(5),
            () -> x.pots(4, 50), () -> x.paint(0, 1), x::back, x::fill, () -> x.wish(1, 4, 9),
            () -> Checks.read(x, "x;p1=0;b0-2;h1;w1=0*3;j2+9")};
        return changes[kind];
    }

    /** Three countries, the last painted: 7 changes, each of which is needed for the next. */
    private static FlagHues small() {
        FlagHues x = Checks.withSizes(1, 2, 3);
        x.border(0, 1);
        x.hues(2);
        x.border(1, 2);
        x.paint(2, 0);
        return x;
    }

    // "also if nothing is different then"
    private static void promise35ChangesThatChangeNothing() {
        FlagHues x = Checks.withSizes(1);
        x.wish(0, 1, 5);
        x.pots(3, 50);
        x.pots(3, 50);
        Checks.due("the changes", 4, x.account(12));
        String before = Checks.pictureOf(x);
        Checks.Call[] calls = {() -> x.hues(3), () -> x.pots(3, 1), x::fill, () -> x.wish(0, 1, 5),
            () -> Checks.read(x, "f"), () -> Checks.read(x, "h3;f;w0=1*5;j3+50")};
        for (int i = 0; i < calls.length; i++) {
            calls[i].answer();
            Checks.due("account(12) after call " + i, 5, x.account(12));
            Checks.due("undo() of call " + i, 4, x.undo());
            Checks.due("the map after call " + i, before, Checks.pictureOf(x));
        }
    }

    // Calls that throw are no changes, nor is any other call than those ten.
    private static void promise35NoChanges() {
        FlagHues x = small();
        Checks.Call[] calls = {() -> x.country(10), () -> x.border(0, 0), () -> x.erase(2, 2), () -> x.hues(0),
            () -> x.pots(0, 0), () -> x.paint(1, 0), () -> x.wish(0, 0, 10), () -> x.hasBorder(0, 1),
            () -> x.bars(0, 0), () -> x.step(0), x::stuck, x::next, () -> x.gentle(0), x::fulfilled, x::ways, x::waysAgain,
            () -> x.waysFor(0), x::fewest, x::clique, () -> x.line(0), () -> x.character(0), () -> x.append('?'),
            x::read, x::errorPosition, () -> x.refusal(true), x::isWell, x::meanSize, x::painted, x::save};
        for (int i = 0; i < calls.length; i++) {
            Checks.outcomeOf(calls[i]);
            Checks.due("account(12) after call " + i, 7, x.account(12));
        }
        FlagHues y = Checks.withSizes(1);
        Checks.outcomeOf(y::back);
        Checks.outcomeOf(() -> Checks.read(y, "f;x;x"));
        Checks.due("account(12) after a step back and a text that are refused", 1, y.account(12));
    }

    // "Returns the countries." (save)
    private static void promise36FromNoneToSeven() {
        FlagHues x = new FlagHues();
        for (int many = 0; many <= 7; many++) {
            Checks.due("save() of " + many, many, x.save());
            Checks.due("restore() of " + many, many, x.restore());
            if (many < 7) {
                x.country(many + 1);
            }
        }
        Checks.dueThrow("undo() of what restore forgot", BAD_STATE, x::undo);
    }

    // "Takes a snapshot of what changes can change, in place of an earlier one."
    private static void promise36InPlaceOfTheEarlier() {
        FlagHues x = Checks.withSizes(1, 2);
        x.save();
        x.paint(0, 0);
        Checks.due("save()", 2, x.save());
        x.back();
        x.country(3);
        Checks.due("restore()", 2, x.restore());
        Checks.due("the later one", 0, x.countryOf(0, 1));
        Checks.due("no paint was taken off there", 0, x.account(8));
    }

    // To undo does not change the snapshot, and what was before it can be undone all the same.
    private static void promise36UndoAndTheSnapshot() {
        FlagHues x = Checks.withSizes(1, 2);
        x.paint(1, 2);
        x.save();
        Checks.due("account(12)", 3, x.account(12));
        Checks.due("undo() of a change before save()", 2, x.undo());
        Checks.due("not painted", -1, x.countryOf(1, 1));
        x.undo();
        x.country(7);
        Checks.due("restore()", 2, x.restore());
        Checks.due("painted as in the snapshot", 2, x.countryOf(1, 1));
        Checks.due("of the size as in the snapshot", 2, x.countryOf(1, 0));
    }

    // "Throws IllegalStateException if there is no snapshot"
    private static void promise37NoSnapshot() {
        Checks.dueThrowLeavingAll("restore() of a new map", BAD_STATE, FlagHues::new, FlagHues::restore);
        Checks.dueThrowLeavingAll("restore() without save()", BAD_STATE, () -> {
            FlagHues x = Checks.full(9);
            x.paint(0, 2);
            Checks.type(x, "x");
            return x;
        }, FlagHues::restore);
    }

    // "Makes everything that changes can change as it is in the snapshot, which stays."
    private static void promise37EachKindOfChangeAndTwice() {
        for (int kind = 0; kind < 10; kind++) {
            FlagHues x = small();
            String before = withoutChanges(x);
            x.save();
            for (int times = 0; times < 2; times++) {
                changeOf(kind, x).answer();
                Checks.due("it is seen, kind " + kind, false, before.equals(withoutChanges(x)));
                Checks.due("restore(), kind " + kind, 3, x.restore());
                Checks.due("the map, kind " + kind, before, withoutChanges(x));
                Checks.due("account(12), kind " + kind, 0, x.account(12));
            }
        }
    }

    /** The picture but for how many changes can be undone. */
    private static String withoutChanges(FlagHues x) {
        String picture = Checks.pictureOf(x);
        int before = picture.lastIndexOf(' ', picture.indexOf('|') - 2);
        return picture.substring(0, before) + picture.substring(picture.indexOf('|'));
    }

    // "restore forgets all"
    private static void promise37ForgetsAllChanges() {
        FlagHues x = Checks.full(3);
        x.pots(0, 1);
        x.save();
        x.pots(0, 2);
        Checks.due("account(12)", 8, x.account(12));
        x.restore();
        Checks.due("account(12) after restore()", 0, x.account(12));
        Checks.dueThrow("undo()", BAD_STATE, x::undo);
        Checks.due("the pots", 10, x.hueOf(0, 0));
        for (int many = 1; many <= 9; many++) {
            x.pots(0, 1);
            Checks.due("changes after restore()", Math.min(8, many), x.account(12));
        }
        for (int left = 7; left >= 0; left--) {
            Checks.due("undo()", left, x.undo());
        }
        Checks.due("the pots after the first of nine", 11, x.hueOf(0, 0));
    }

    // A snapshot of a map without countries is one, too.
    private static void promise37OfAMapWithoutCountries() {
        FlagHues x = new FlagHues();
        Checks.due("save()", 0, x.save());
        x.country(5);
        x.paint(0, 0);
        x.hues(5);
        Checks.due("restore()", 0, x.restore());
        Checks.due("the hues", 3, x.account(2));
        Checks.due("the pots", 45, x.account(6));
        Checks.due("the used pots", 0, x.account(7));
        Checks.due("the steps", 0, x.account(5));
        Checks.dueThrow("countryOf(0, 0)", IndexOutOfBoundsException.class, () -> x.countryOf(0, 0));
        Checks.due("country(6)", 0, x.country(6));
        Checks.due("it is not painted", -1, x.countryOf(0, 1));
    }

    // "The input, the line, the error position and the reason are neither undone nor saved, and stay."
    private static void promises35And37WhatStays() {
        FlagHues x = Checks.full();
        x.save();
        x.pots(0, 5);
        Checks.outcomeOf(() -> Checks.read(x, "f;f;?"));
        Checks.outcomeOf(() -> x.border(4, 4));
        x.border(4, 6);
        x.line(4);
        Checks.type(x, "h5;f");
        for (Checks.Call call : new Checks.Call[] {x::undo, x::restore, x::save, x::restore}) {
            call.answer();
            Checks.due("the line", "4:-(6)", Checks.writtenIn(x));
            Checks.due("the input", 4, x.account(11));
            Checks.due("the error position", 4, x.errorPosition());
            Checks.dueReason("the reason", 5, 4, x);
        }
        Checks.due("read() of the input", 2, x.read());
        Checks.due("the hues", 5, x.account(2));
    }

    /** Of each account there is something: borders, painted and stuck ones, paint that was taken off, wishes. */
    private static FlagHues various() {
        FlagHues x = Checks.withSizes(4, 9, 8, 2);
        x.wish(2, 1, 6);
        x.wish(0, 3, 9);
        x.border(0, 1);
        x.border(1, 2);
        x.paint(2, 1);
        x.paint(3, 2);
        x.back();
        x.hues(2);
        x.paint(0, 0);
        return Checks.marked(x);
    }
}
