import java.util.NoSuchElementException;

/** The edges of promises 10 to 17; each test stands below the words of the document that it holds to. */
public final class PaintingEdgesTest {
    private static final Class<NoSuchElementException> NONE_SUCH = NoSuchElementException.class;
    private static final Class<IndexOutOfBoundsException> OUTSIDE = IndexOutOfBoundsException.class;
    private static final int LOW = Integer.MIN_VALUE;
    private static final int HIGH = Integer.MAX_VALUE;

    public static void main(String[] args) {
        Checks.runTestsOf(PaintingEdgesTest.class);
    }

    // "Returns how many steps there are then."
    private static void promise10FromOneStepToSeven() {
        FlagHues x = Checks.full();
        x.hues(5);
        int[] order = {6, 0, 5, 1, 4, 2, 3};
        for (int i = 0; i < 7; i++) {
            Checks.due("paint(" + order[i] + ", " + (4 - i % 5) + ")", i + 1, x.paint(order[i], 4 - i % 5));
            Checks.due("the last step", order[i], x.step(i));
            Checks.due("its place", i, x.countryOf(order[i], 6));
            Checks.due("its hue", 4 - i % 5, x.countryOf(order[i], 1));
        }
    }

    // "to paint a country takes as many pots of its hue as its size"
    private static void promise10TakesAsManyPotsAsTheSize() {
        for (int size : new int[] {1, 9}) {
            FlagHues x = Checks.withSizes(5, size);
            x.paint(1, 2);
            Checks.due("the pots after size " + size, 9 - size, x.hueOf(2, 0));
            Checks.due("the used ones", size, x.hueOf(2, 3));
            Checks.due("the pots of the other hues", 36, x.account(6) - x.hueOf(2, 0));
        }
    }

    // "Throws IndexOutOfBoundsException if there is no such country or hue"
    private static void promises10And11NoSuchCountryOrHue() {
        int[][] pairs = {{-1, 0}, {2, 0}, {7, 1}, {LOW, 0}, {HIGH, 0}, {0, -1}, {0, 5}, {1, LOW}, {1, HIGH}, {2, 5}};
        for (int[] pair : pairs) {
            Checks.dueThrowLeavingAll("paint(" + pair[0] + ", " + pair[1] + ")", OUTSIDE,
                    () -> Checks.marked(Checks.withSizes(1, 1)), x -> x.paint(pair[0], pair[1]));
            Checks.dueThrowLeavingAll("bars(" + pair[0] + ", " + pair[1] + ")", OUTSIDE,
                    () -> Checks.marked(Checks.withSizes(1, 1)), x -> x.bars(pair[0], pair[1]));
        }
        Checks.dueThrowLeavingAll("paint(0, 0) without countries", OUTSIDE, FlagHues::new, x -> x.paint(0, 0));
        Checks.dueThrowLeavingAll("bars(0, 0) without countries", OUTSIDE, FlagHues::new, x -> x.bars(0, 0));
        Checks.dueThrow("paint(7, 0) of seven", OUTSIDE, () -> Checks.full().paint(7, 0));
        Checks.due("paint(6, 0) of seven", 1, Checks.full().paint(6, 0));
    }

    // "If several exceptions apply, the one that is documented first is thrown."
    private static void promises10And11NoSuchHueBeforeAnyReason() {
        for (int hue : new int[] {-1, 5}) {
            Checks.dueThrowLeavingAll("paint of a painted one in hue " + hue, OUTSIDE, () -> tight(),
                    x -> x.paint(1, hue));
            Checks.dueThrowLeavingAll("paint of a stuck one in hue " + hue, OUTSIDE, () -> tight(),
                    x -> x.paint(0, hue));
            Checks.dueThrowLeavingAll("bars of a painted one in hue " + hue, OUTSIDE, () -> tight(),
                    x -> x.bars(1, hue));
        }
    }

    // "2, the country is painted: its hue"
    private static void promise10Painted() {
        for (int hue = 0; hue < 5; hue++) {
            FlagHues x = Checks.full();
            x.hues(5);
            x.paint(6, hue);
            for (int other = 0; other < 5; other++) {
                int asked = other;
                Checks.dueRefusal("paint(6, " + other + ")", 2, hue, x, () -> x.paint(6, asked));
            }
        }
        Checks.dueRefusalLeavingAll("paint(1, 2)", 2, 0, () -> tight(), x -> x.paint(1, 2));
    }

    // "refused for reason 2, 10, 3 or 4", in this order
    private static void promise10PaintedBeforeAllElse() {
        FlagHues x = tight();
        Checks.dueRefusal("a hue that cannot be used", 2, 0, x, () -> x.paint(1, 4));
        Checks.dueRefusal("a hue of a neighbour", 2, 0, x, () -> x.paint(1, 1));
        Checks.dueRefusal("its own hue, of which there are too few pots", 2, 1, x, () -> x.paint(2, 1));
    }

    // "10, the hue cannot be used: the hue"
    private static void promise10CannotBeUsed() {
        for (int many = 1; many <= 5; many++) {
            int usable = many;
            for (int hue = 0; hue < 5; hue++) {
                int asked = hue;
                if (hue < many) {
                    Checks.due("paint(0, " + hue + ") of " + many, 1, withHues(many).paint(0, hue));
                } else {
                    Checks.dueRefusalLeavingAll("paint(0, " + hue + ") of " + many, 10, hue, () -> withHues(usable),
                            x -> x.paint(0, asked));
                }
            }
        }
    }

    private static void promise10CannotBeUsedBeforeTooFewPots() {
        FlagHues x = Checks.withSizes(9, 9);
        x.hues(4);
        x.paint(1, 3);
        x.back();
        x.hues(3);
        Checks.due("no pots are left", 0, x.hueOf(3, 0));
        Checks.dueRefusal("paint(0, 3)", 10, 3, x, () -> x.paint(0, 3));
        Checks.due("bars(0, 3)", 10, x.bars(0, 3));
        x.hues(4);
        Checks.due("bars(0, 3) when it can be used", 4, x.bars(0, 3));
    }

    // "3, a neighbour has the hue: the lowest such neighbour"
    private static void promise10TheLowestNeighbourThatHasIt() {
        Checks.dueRefusalLeavingAll("hue 2", 3, 4, () -> amongNeighbours(), x -> x.paint(3, 2));
        Checks.dueRefusalLeavingAll("hue 1", 3, 0, () -> amongNeighbours(), x -> x.paint(3, 1));
        FlagHues x = amongNeighbours();
        x.erase(3, 4);
        Checks.dueRefusal("hue 2 without country 4", 3, 6, x, () -> x.paint(3, 2));
        x.erase(6, 3);
        Checks.due("hue 2 of no neighbour", 5, x.paint(3, 2));
    }

    private static void promise10ANeighbourBeforeTooFewPots() {
        FlagHues x = Checks.withSizes(9, 1, 9);
        x.border(0, 1);
        x.paint(1, 0);
        Checks.dueRefusal("a neighbour has it, and a pot is missing", 3, 1, x, () -> x.paint(0, 0));
        Checks.dueRefusal("a pot is missing", 4, 1, x, () -> x.paint(2, 0));
    }

    // "4, there are too few pots: how many are missing"
    private static void promise10HowManyPotsAreMissing() {
        for (int size = 1; size <= 9; size++) {
            int large = size;
            for (int left : new int[] {0, size - 1}) {
                Checks.dueRefusalLeavingAll("size " + size + " of " + left + " pots", 4, size - left,
                        () -> withPotsLeft(left, large), x -> x.paint(2, 0));
            }
            Checks.due("size " + size + " of as many pots", 3, withPotsLeft(size, size).paint(2, 0));
            Checks.due("its last pot is used", 0, afterPaint(withPotsLeft(size, size)).hueOf(0, 0));
        }
    }

    // "Returns the reason, 0 if it would not be."; "Returns the reason for which paint would be refused now."
    private static void promise11IsTheReasonOfPaint() {
        for (int country = 0; country < 5; country++) {
            for (int hue = 0; hue < 5; hue++) {
                int asked = country;
                int wanted = hue;
                FlagHues painter = tight();
                String outcome = Checks.outcomeOf(() -> painter.paint(asked, wanted));
                int want = outcome.startsWith("throws") ? painter.refusal(false) : 0;
                Checks.dueLeavingAll("bars(" + country + ", " + hue + ")", want, () -> tight(),
                        x -> x.bars(asked, wanted));
            }
        }
    }

    private static void promise11EachReason() {
        FlagHues x = tight();
        Checks.due("bars(1, 4)", 2, x.bars(1, 4));
        Checks.due("bars(0, 3)", 10, x.bars(0, 3));
        Checks.due("bars(0, 0)", 3, x.bars(0, 0));
        Checks.due("bars(3, 1)", 4, x.bars(3, 1));
        Checks.due("bars(3, 2)", 0, x.bars(3, 2));
        FlagHues y = new FlagHues();
        y.country(1);
        Checks.due("bars(0, 3)", 10, y.bars(0, 3));
        Checks.dueThrow("no reason is kept for refusal", NONE_SUCH, () -> y.refusal(false));
    }

    // "8, there is no step: 0"
    private static void promise12NoStep() {
        Checks.dueRefusalLeavingAll("back() without countries", 8, 0, FlagHues::new, FlagHues::back);
        Checks.dueRefusalLeavingAll("back() when none is painted", 8, 0, () -> Checks.marked(Checks.full()),
                FlagHues::back);
        Checks.dueRefusalLeavingAll("back() after the only step", 8, 0, () -> {
            FlagHues x = Checks.full();
            x.paint(6, 2);
            x.back();
            return Checks.marked(x);
        }, FlagHues::back);
    }

    // "To step back takes the paint off the country of the last step, which is no step any more."
    private static void promise12TheLastOfSevenSteps() {
        FlagHues x = Checks.full();
        int[] order = {3, 6, 0, 5, 1, 4, 2};
        for (int country : order) {
            x.paint(country, 0);
        }
        for (int left = 6; left >= 0; left--) {
            Checks.due("back()", order[left], x.back());
            Checks.due("its hue", -1, x.countryOf(order[left], 1));
            Checks.due("its place", -1, x.countryOf(order[left], 6));
            Checks.due("the steps", left, x.account(5));
            Checks.due("how often paint was taken off", 7 - left, x.account(8));
            int gone = left;
            Checks.dueThrow("step(" + left + ")", NONE_SUCH, () -> x.step(gone));
        }
        Checks.dueRefusal("an eighth back()", 8, 0, x, x::back);
        Checks.due("that took off no paint", 7, x.account(8));
    }

    // "When paint is taken off a country, the pots do not come back."
    private static void promise12PotsDoNotComeBack() {
        FlagHues x = Checks.withSizes(9, 1);
        x.border(0, 1);
        x.paint(0, 1);
        x.back();
        Checks.due("the pots", 0, x.hueOf(1, 0));
        Checks.due("the used pots", 9, x.account(7));
        Checks.due("no neighbour has it, but there are no pots", 4, x.bars(1, 1));
        x.pots(1, 1);
        Checks.due("one pot was brought", 1, x.paint(1, 1));
    }

    // "until there is none"; "also if nothing is different then"
    private static void promise13NothingToFill() {
        dueNothingFilled("without countries", new FlagHues());
        FlagHues two = Checks.withSizes(1, 1, 1);
        two.hues(2);
        dueNothingFilled("each has two hues", two);
        FlagHues stuck = Checks.withSizes(2, 2, 9);
        stuck.hues(1);
        stuck.paint(2, 0);
        dueNothingFilled("each is stuck", stuck);
        FlagHues all = Checks.withSizes(1, 1);
        all.hues(1);
        all.paint(1, 0);
        all.paint(0, 0);
        dueNothingFilled("all are painted", all);
    }

    private static void dueNothingFilled(String map, FlagHues x) {
        int changes = x.account(12);
        String steps = Checks.stepsOf(x);
        Checks.due("fill(), " + map, 0, x.fill());
        Checks.due("the steps, " + map, steps, Checks.stepsOf(x));
        Checks.due("the changes, " + map, changes + 1, x.account(12));
        Checks.due("undo(), " + map, changes, x.undo());
    }

    // "for which just one hue is free, of several the lowest, in that hue, until there is none; each is a step"
    private static void promise13SevenAtOnce() {
        FlagHues x = Checks.full();
        x.hues(1);
        Checks.due("fill()", 7, x.fill());
        Checks.due("the steps", "0123456", Checks.stepsOf(x));
        Checks.due("the pots", 2, x.hueOf(0, 0));
        Checks.due("the used pots", 7, x.hueOf(0, 3));
        x.undo();
        Checks.due("one undo takes all seven away", 0, x.account(3));
    }

    private static void promise13InTheHueThatIsFree() {
        for (int hue = 0; hue < 5; hue++) {
            FlagHues x = Checks.complete(5);
            x.hues(5);
            for (int country = 0; country < 4; country++) {
                x.paint(country, country < hue ? country : country + 1);
            }
            Checks.due("fill()", 1, x.fill());
            Checks.due("the hue of the fifth", hue, x.countryOf(4, 1));
            Checks.due("its pots", 8, x.hueOf(hue, 0));
        }
    }

    // "again and again": after each, the lowest of those that have one free hue then
    private static void promise13TheLowestAfterEach() {
        FlagHues x = Checks.full();
        x.hues(2);
        x.border(3, 0);
        x.border(3, 6);
        x.border(5, 6);
        x.paint(6, 0);
        Checks.due("fill()", 3, x.fill());
        Checks.due("3 first, then 0 before 5", "6305", Checks.stepsOf(x));
        Checks.due("the hue of 0", 0, x.countryOf(0, 1));
        Checks.due("the hue of 5", 1, x.countryOf(5, 1));
    }

    // The filling itself takes pots, and so it makes others have one hue or none.
    private static void promise13PotsThatRunOutOnTheWay() {
        FlagHues x = Checks.withSizes(5, 5, 4, 1);
        x.hues(1);
        Checks.due("fill() with 9 pots", 2, x.fill());
        Checks.due("1 and 3 are stuck", "02", Checks.stepsOf(x));
        FlagHues y = Checks.withSizes(1, 1, 9);
        y.hues(2);
        y.border(0, 1);
        y.paint(1, 1);
        y.pots(1, 1);
        Checks.due("2 has two free hues", 2, y.countryOf(2, 3));
        Checks.due("fill() takes one of them away", 2, y.fill());
        Checks.due("the hue of 2", 1, y.countryOf(2, 1));
        Checks.due("the pots of hue 0", 8, y.hueOf(0, 0));
    }

    // "Throws NoSuchElementException if there is no such place"
    private static void promise14Places() {
        for (int place : new int[] {0, -1, 1, LOW, HIGH}) {
            Checks.dueThrowLeavingAll("step(" + place + ") without steps", NONE_SUCH,
                    () -> Checks.marked(Checks.full()), x -> x.step(place));
            Checks.dueThrow("step(" + place + ") without countries", NONE_SUCH, () -> new FlagHues().step(place));
        }
        for (int place : new int[] {3, -1, 7, LOW, HIGH}) {
            Checks.dueThrowLeavingAll("step(" + place + ") of three", NONE_SUCH, () -> withSteps(6, 0, 4),
                    x -> x.step(place));
        }
        Checks.dueLeavingAll("step(0) of three", 6, () -> withSteps(6, 0, 4), x -> x.step(0));
        Checks.dueLeavingAll("step(2) of three", 4, () -> withSteps(6, 0, 4), x -> x.step(2));
        FlagHues seven = withSteps(6, 0, 4, 1, 5, 3, 2);
        Checks.due("step(0) of seven", 6, seven.step(0));
        Checks.due("step(6) of seven", 2, seven.step(6));
        Checks.dueThrow("step(7) of seven", NONE_SUCH, () -> seven.step(7));
    }

    // "Throws NoSuchElementException if there is none"
    private static void promise15NoneIsStuck() {
        Checks.dueThrowLeavingAll("stuck() without countries", NONE_SUCH, FlagHues::new, FlagHues::stuck);
        Checks.dueThrowLeavingAll("stuck() with free hues", NONE_SUCH, () -> Checks.marked(Checks.full(9)),
                FlagHues::stuck);
        Checks.dueThrowLeavingAll("stuck() when all are painted", NONE_SUCH, () -> {
            FlagHues x = Checks.withSizes(9, 9, 9);
            x.paint(0, 0);
            x.paint(1, 1);
            x.paint(2, 2);
            return Checks.marked(x);
        }, FlagHues::stuck);
    }

    // "Returns the first stuck country."; "A country that is not painted and for which no hue is free is stuck."
    private static void promise15TheFirstOfAll() {
        FlagHues x = lackingPots();
        Checks.dueLeavingAll("stuck() of six that lack a pot", 1, () -> lackingPots(), FlagHues::stuck);
        x.pots(0, 1);
        Checks.dueThrow("stuck() with just enough pots", NONE_SUCH, x::stuck);
        x.border(0, 6);
        Checks.due("stuck() by a neighbour", 6, x.stuck());
        x.hues(2);
        Checks.dueThrow("stuck() with one free hue", NONE_SUCH, x::stuck);
        FlagHues back = lackingPots();
        back.back();
        Checks.due("stuck() when the paint is off again, and the pot is not back", 1, back.stuck());
        FlagHues zero = Checks.full(9);
        zero.hues(1);
        zero.paint(6, 0);
        Checks.due("stuck() when it is country 0", 0, zero.stuck());
    }

    // "Throws NoSuchElementException if all are painted"
    private static void promise16AllArePainted() {
        Checks.dueThrowLeavingAll("next() without countries", NONE_SUCH, FlagHues::new, FlagHues::next);
        Checks.dueThrowLeavingAll("next() when all are painted", NONE_SUCH, () -> withSteps(6, 0, 4, 1, 5, 3, 2),
                FlagHues::next);
        Checks.dueLeavingAll("next() when only 6 is left", 6, () -> withSteps(2, 0, 4, 1, 5, 3), FlagHues::next);
        Checks.dueLeavingAll("next() when only 0 is left", 0, () -> withSteps(2, 6, 4, 1, 5, 3), FlagHues::next);
    }

    // "for which the fewest hues are free": none is fewer than one
    private static void promise16AStuckOneHasTheFewest() {
        FlagHues x = Checks.full(1, 1, 1, 1, 1, 9, 1);
        x.hues(1);
        Checks.due("next() when each has one hue", 0, x.next());
        x.paint(0, 0);
        Checks.due("next() when 5 is stuck", 5, x.next());
        x.border(2, 0);
        Checks.due("next() when 2 is stuck too", 2, x.next());
        x.border(5, 6);
        Checks.due("next() when 5 has a neighbour that is not painted", 5, x.next());
    }

    // "of several the one with the most neighbours that are not painted"
    private static void promise16NeighboursCountAfterHues() {
        FlagHues x = Checks.full();
        x.border(1, 0);
        x.border(2, 3);
        x.border(2, 4);
        x.paint(0, 0);
        Checks.due("one hue fewer, and no neighbour that is not painted", 1, x.next());
        x.hues(4);
        x.border(5, 0);
        x.border(5, 1);
        Checks.due("both have one each, then the lowest", 1, x.next());
        x.border(5, 6);
        Checks.due("5 has one more", 5, x.next());
        FlagHues y = Checks.full();
        y.border(3, 0);
        y.border(3, 1);
        y.border(4, 5);
        y.paint(0, 0);
        y.paint(1, 0);
        y.border(4, 0);
        Checks.due("3 has two painted neighbours, 4 one that is not", 4, y.next());
    }

    // "and then the lowest one"
    private static void promise16TheLowestOfEquals() {
        Checks.due("next() of seven equals", 0, Checks.full().next());
        Checks.due("next() of seven that all have six neighbours", 0, Checks.complete(7).next());
        FlagHues x = Checks.full();
        x.border(6, 4);
        x.border(2, 5);
        Checks.due("next() of four with one neighbour", 2, x.next());
    }

    // "Throws IndexOutOfBoundsException if there is no such country" (gentle)
    private static void promise17NoSuchCountryFirst() {
        for (int country : new int[] {-1, 5, 7, LOW, HIGH}) {
            Checks.dueThrowLeavingAll("gentle(" + country + ") of five", OUTSIDE, () -> tight(),
                    x -> x.gentle(country));
        }
        Checks.dueThrow("gentle(0) without countries", OUTSIDE, () -> new FlagHues().gentle(0));
        Checks.dueThrow("gentle(7) of seven", OUTSIDE, () -> Checks.full().gentle(7));
        Checks.due("gentle(6) of seven", 0, Checks.full().gentle(6));
    }

    // "Throws NoSuchElementException if none is free for it, or it is painted"
    private static void promise17NoneIsFreeOrItIsPainted() {
        Checks.dueThrowLeavingAll("gentle(1), painted", NONE_SUCH, () -> tight(), x -> x.gentle(1));
        Checks.dueThrowLeavingAll("gentle(0), stuck", NONE_SUCH, () -> tight(), x -> x.gentle(0));
        Checks.dueLeavingAll("gentle(3), one hue is free", 2, () -> tight(), x -> x.gentle(3));
    }

    // "of several the lowest hue"
    private static void promise17TheLowestOfEquals() {
        Checks.due("gentle(0) without neighbours", 0, withHues(5).gentle(0));
        FlagHues x = Checks.full();
        x.hues(5);
        x.border(0, 1);
        x.border(0, 2);
        Checks.due("all hues take two away", 0, x.gentle(0));
        x.border(1, 3);
        x.border(2, 4);
        x.paint(3, 4);
        x.paint(4, 2);
        Checks.due("hues 2 and 4 take one each", 2, x.gentle(0));
        x.border(1, 4);
        Checks.due("hue 2 takes none", 2, x.gentle(0));
        x.border(2, 3);
        Checks.due("hues 2 and 4 take none", 2, x.gentle(0));
        x.border(0, 4);
        Checks.due("hue 2 is not free for it", 4, x.gentle(0));
    }

    // "those neighbours are counted for which it is free now"; "from all neighbours that are not painted"
    private static void promise17WhoIsCounted() {
        FlagHues x = Checks.full(1, 9, 1, 1, 1, 1, 1);
        x.hues(2);
        x.border(0, 1);
        x.paint(6, 0);
        Checks.due("hue 0 has too few pots for neighbour 1, hue 1 has not", 0, x.gentle(0));
        x.back();
        x.paint(6, 1);
        x.pots(0, 50);
        Checks.due("hue 1 has too few pots for neighbour 1", 1, x.gentle(0));
        FlagHues painted = Checks.full();
        painted.border(0, 6);
        painted.border(6, 5);
        painted.paint(6, 2);
        painted.paint(5, 1);
        Checks.due("neighbour 6 is painted: hues 0 and 1 take none away", 0, painted.gentle(0));
        painted.border(0, 4);
        painted.border(4, 3);
        painted.paint(3, 0);
        Checks.due("neighbour 4 has no hue 0", 0, painted.gentle(0));
        painted.border(0, 2);
        painted.border(2, 5);
        Checks.due("neighbours 2 and 4 have one of them each", 0, painted.gentle(0));
        painted.border(4, 5);
        Checks.due("neighbour 4 has none of them, 2 has hue 0", 1, painted.gentle(0));
        FlagHues ends = Checks.full();
        for (int end : new int[] {0, 6}) {
            ends.border(3, end);
            ends.border(end, end == 0 ? 1 : 5);
            ends.paint(end == 0 ? 1 : 5, 1);
            Checks.due("neighbour " + end + " has hues 0 and 2", 1, ends.gentle(3));
            ends.erase(3, end);
        }
        FlagHues strangers = Checks.full();
        strangers.hues(2);
        strangers.border(0, 1);
        strangers.border(1, 6);
        strangers.border(2, 5);
        strangers.border(3, 5);
        strangers.border(4, 5);
        strangers.paint(5, 0);
        strangers.paint(6, 1);
        Checks.due("only neighbours are counted", 1, strangers.gentle(0));
    }

    /** Country 0 is stuck, 1, 2 and 4 are painted, 3 has one free hue: each reason of paint can be met. */
    private static FlagHues tight() {
        FlagHues x = Checks.withSizes(9, 1, 8, 4, 5);
        x.border(0, 1);
        x.border(0, 2);
        x.border(1, 2);
        x.border(3, 1);
        x.paint(1, 0);
        x.paint(2, 1);
        x.paint(4, 2);
        return Checks.marked(x);
    }

    private static FlagHues withHues(int many) {
        FlagHues x = Checks.full(9);
        x.hues(many);
        return x;
    }

    private static FlagHues amongNeighbours() {
        FlagHues x = Checks.full();
        int[][] painted = {{1, 2}, {0, 1}, {6, 2}, {4, 2}};
        for (int[] pair : painted) {
            x.paint(pair[0], pair[1]);
        }
        x.border(3, 0);
        x.border(3, 6);
        x.border(3, 4);
        x.border(3, 5);
        return x;
    }

    /** Country 2 has the size, and there are that many pots of hue 0. */
    private static FlagHues withPotsLeft(int left, int size) {
        FlagHues x = Checks.withSizes(9, Math.max(1, 9 - left), size, 1);
        x.paint(0, 1);
        if (left < 9) {
            x.paint(1, 0);
        } else {
            x.paint(1, 2);
        }
        return x;
    }

    private static FlagHues afterPaint(FlagHues x) {
        x.paint(2, 0);
        return x;
    }

    private static FlagHues withSteps(int... countries) {
        FlagHues x = Checks.full();
        for (int country : countries) {
            x.paint(country, 1);
        }
        return Checks.marked(x);
    }

    private static FlagHues lackingPots() {
        FlagHues x = Checks.full(1, 9, 9, 9, 9, 9, 9);
        x.hues(1);
        x.paint(0, 0);
        return Checks.marked(x);
    }
}
