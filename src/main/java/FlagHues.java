import java.util.NoSuchElementException;

/** A painter of a map: neighbours may not share a hue, and each hue has its pots of paint. */
public final class FlagHues {
    private static final int MOST_COUNTRIES = 7;
    private static final int LARGEST_SIZE = 9;
    private static final int ALL_HUES = 5;
    private static final int HUES_AT_FIRST = 3;
    private static final int POTS_AT_FIRST = 9;
    private static final int MOST_POTS = 99;
    private static final int MOST_POTS_BROUGHT = 50;
    private static final int HIGHEST_CROWN = 9;
    private static final int MOST_CHARACTERS = 60;
    private static final int LONGEST_LINE = 17;
    private static final int MOST_CHANGES = 8;
    private static final int MOST_VALUES = 3;
    private static final int MOST_LEFT_FOR_NUMBERS = 4;

    private static final int NONE = -1;

    private static final int NOT_REFUSED = 0;
    private static final int MAP_IS_FULL = 1;
    private static final int IS_PAINTED = 2;
    private static final int NEIGHBOUR_HAS_HUE = 3;
    private static final int TOO_FEW_POTS = 4;
    private static final int SAME_COUNTRY = 5;
    private static final int BORDER_AS_IT_IS = 6;
    private static final int BOTH_IN_ONE_HUE = 7;
    private static final int NO_STEP = 8;
    private static final int HUE_STILL_NEEDED = 9;
    private static final int HUE_NOT_USABLE = 10;

    private static final int CAN_BE = 0;
    private static final int REFUSED = -1;
    private static final int WRONG = -2;

    private final Land now = new Land();
    private final Land before = new Land();
    private final Land snapshot = new Land();
    private final Past past = new Past();
    private final Counter counter = new Counter();
    private final Orders orders = new Orders();
    private final char[] line = new char[LONGEST_LINE];
    private int lineLength = 0;
    private boolean hasSnapshot = false;
    private int errorPosition = NONE;
    private int reason = NOT_REFUSED;
    private int detail = 0;

    public FlagHues() {
    }

    // Countries, borders, hues.

    public int country(int size) throws IllegalArgumentException, UnsupportedOperationException {
        if (size < 1 || size > LARGEST_SIZE) {
            throw new IllegalArgumentException("a size is from 1 to 9");
        }
        stopIfRefused(now.reasonAgainstCountry(), 0, 0);
        past.keep(now);
        return now.addCountry(size);
    }

    public int border(int country, int other) throws IndexOutOfBoundsException, UnsupportedOperationException {
        stopIfNoCountry(country);
        stopIfNoCountry(other);
        stopIfRefused(now.reasonAgainstBorder(country, other), country, other);
        past.keep(now);
        now.join(country, other);
        return now.countBorders();
    }

    public int erase(int country, int other) throws IndexOutOfBoundsException, UnsupportedOperationException {
        stopIfNoCountry(country);
        stopIfNoCountry(other);
        stopIfRefused(now.reasonAgainstErasing(country, other), country, other);
        past.keep(now);
        now.part(country, other);
        return now.countBorders();
    }

    public boolean hasBorder(int country, int other) throws IndexOutOfBoundsException {
        stopIfNoCountry(country);
        stopIfNoCountry(other);
        return now.areNeighbours(country, other);
    }

    public int countryOf(int country, int what) throws IndexOutOfBoundsException, IllegalArgumentException {
        stopIfNoCountry(country);
        switch (what) {
            case 0: return now.size[country];
            case 1: return now.hue[country];
            case 2: return now.countNeighbours(country);
            case 3: return Integer.bitCount(now.freeHues(country));
            case 4: return now.wish[country];
            case 5: return now.crown[country];
            case 6: return now.placeOf(country);
            default: throw new IllegalArgumentException("what is from 0 to 6");
        }
    }

    public int hues(int many) throws IllegalArgumentException, UnsupportedOperationException {
        if (!isManyHues(many)) {
            throw new IllegalArgumentException("from 1 to 5 hues can be used");
        }
        stopIfRefused(now.reasonAgainstHues(many), many, 0);
        past.keep(now);
        int usableBefore = now.usable;
        now.usable = many;
        return usableBefore;
    }

    public int pots(int hue, int pots) throws IndexOutOfBoundsException, IllegalArgumentException {
        stopIfNoHue(hue);
        if (!isManyPots(pots)) {
            throw new IllegalArgumentException("from 1 to 50 pots are brought");
        }
        past.keep(now);
        now.bring(hue, pots);
        return now.pots[hue];
    }

    public int hueOf(int hue, int what) throws IndexOutOfBoundsException, IllegalArgumentException {
        stopIfNoHue(hue);
        switch (what) {
            case 0: return now.pots[hue];
            case 1: return hue < now.usable ? 1 : 0;
            case 2: return now.countPaintedIn(hue);
            case 3: return now.used[hue];
            default: throw new IllegalArgumentException("what is from 0 to 3");
        }
    }

    // Painting.

    public int paint(int country, int hue) throws IndexOutOfBoundsException, UnsupportedOperationException {
        stopIfNoCountry(country);
        stopIfNoHue(hue);
        stopIfRefused(now.reasonAgainstPaint(country, hue), country, hue);
        past.keep(now);
        now.cover(country, hue);
        return now.stepCount;
    }

    public int bars(int country, int hue) throws IndexOutOfBoundsException {
        stopIfNoCountry(country);
        stopIfNoHue(hue);
        return now.reasonAgainstPaint(country, hue);
    }

    public int back() throws UnsupportedOperationException {
        stopIfRefused(now.reasonAgainstBack(), 0, 0);
        past.keep(now);
        return now.stepBack();
    }

    public int fill() {
        past.keep(now);
        return now.fillIn();
    }

    public int step(int place) throws NoSuchElementException {
        if (place < 0 || place >= now.stepCount) {
            throw new NoSuchElementException("there is no such step");
        }
        return now.steps[place];
    }

    public int stuck() throws NoSuchElementException {
        int country = now.firstStuck();
        if (country == NONE) {
            throw new NoSuchElementException("no country is stuck");
        }
        return country;
    }

    public int next() throws NoSuchElementException {
        int country = now.bestToPaint();
        if (country == NONE) {
            throw new NoSuchElementException("all countries are painted");
        }
        return country;
    }

    public int gentle(int country) throws IndexOutOfBoundsException, NoSuchElementException {
        stopIfNoCountry(country);
        int hue = now.gentlestHue(country);
        if (hue == NONE) {
            throw new NoSuchElementException("no hue is free for the country");
        }
        return hue;
    }

    // Wishes and ways.

    public int wish(int country, int hue, int crown) throws IndexOutOfBoundsException, IllegalArgumentException {
        stopIfNoCountry(country);
        stopIfNoHue(hue);
        if (!isCrown(crown)) {
            throw new IllegalArgumentException("a crown is from 0 to 9");
        }
        past.keep(now);
        int wishBefore = now.wish[country];
        now.setWish(country, hue, crown);
        return wishBefore;
    }

    public int fulfilled() {
        return now.sumFulfilledCrowns();
    }

    public int ways() {
        return counter.count(now, now.usable);
    }

    public int waysAgain() {
        if (Integer.bitCount(now.unpainted()) > MOST_LEFT_FOR_NUMBERS) {
            return counter.count(now, now.usable);
        }
        return counter.countByNumbers(now);
    }

    public int waysFor(int country) throws IndexOutOfBoundsException, NoSuchElementException {
        stopIfNoCountry(country);
        if (now.wish[country] == NONE) {
            throw new NoSuchElementException("the country has no wish");
        }
        return counter.countWithWish(now, country);
    }

    public int fewest() throws NoSuchElementException {
        for (int many = now.countHuesNeeded(); many <= ALL_HUES; many++) {
            if (counter.count(now, many) > 0) {
                return many;
            }
        }
        throw new NoSuchElementException("5 hues are not enough");
    }

    public int clique() {
        int greatest = 0;
        for (int group = 0; group < 1 << MOST_COUNTRIES; group++) {
            if (now.isClique(group)) {
                greatest = Math.max(greatest, Integer.bitCount(group));
            }
        }
        return greatest;
    }

    public int line(int country) throws IndexOutOfBoundsException {
        stopIfNoCountry(country);
        lineLength = 0;
        putDigit(country);
        put(':');
        if (now.isPainted(country)) {
            putDigit(now.hue[country]);
        } else {
            put('-');
        }
        put('(');
        putNeighbours(country);
        put(')');
        if (now.isStuck(country)) {
            put('!');
        }
        return lineLength;
    }

    public char character(int index) throws IndexOutOfBoundsException {
        if (index < 0 || index >= lineLength) {
            throw new IndexOutOfBoundsException("the line has no such index");
        }
        return line[index];
    }

    // Texts, accounts, undo and snapshot.

    public int append(char c) throws IllegalStateException {
        if (orders.length >= MOST_CHARACTERS) {
            throw new IllegalStateException("the input contains 60 characters");
        }
        orders.add(c);
        return orders.length;
    }

    public int read() throws IllegalArgumentException, UnsupportedOperationException {
        errorPosition = orders.findError();
        int outcome = errorPosition == NONE ? carryOutAll() : WRONG;
        orders.length = 0;
        if (outcome == WRONG) {
            throw new IllegalArgumentException("the text has an error, or an order has a number out of range");
        }
        if (outcome == REFUSED) {
            throw new UnsupportedOperationException("an order is refused");
        }
        return outcome;
    }

    public int errorPosition() {
        return errorPosition;
    }

    public int refusal(boolean isDetail) throws NoSuchElementException {
        if (reason == NOT_REFUSED) {
            throw new NoSuchElementException("nothing was refused");
        }
        return isDetail ? detail : reason;
    }

    public int account(int what) throws IllegalArgumentException {
        switch (what) {
            case 0: return now.countries;
            case 1: return now.countBorders();
            case 2: return now.usable;
            case 3: return now.countPainted();
            case 4: return now.countStuck();
            case 5: return now.stepCount;
            case 6: return sum(now.pots);
            case 7: return sum(now.used);
            case 8: return now.takenOff;
            case 9: return now.countWishes();
            case 10: return now.countFulfilled();
            case 11: return orders.length;
            case 12: return past.many;
            default: throw new IllegalArgumentException("what is from 0 to 12");
        }
    }

    public boolean isWell() {
        return now.noBorderInOneHue() && now.stepsAreThePainted();
    }

    public double meanSize() throws ArithmeticException {
        int many = now.countPainted();
        if (many == 0) {
            throw new ArithmeticException("no country is painted");
        }
        return (double) now.sumPaintedSizes() / (double) many;
    }

    public float painted() throws ArithmeticException {
        if (now.countries == 0) {
            throw new ArithmeticException("there are no countries");
        }
        return (float) now.countPainted() / (float) now.countries;
    }

    public int undo() throws IllegalStateException {
        if (past.many == 0) {
            throw new IllegalStateException("no change can be undone");
        }
        past.takeLatest(now);
        return past.many;
    }

    public int save() {
        snapshot.copyFrom(now);
        hasSnapshot = true;
        return now.countries;
    }

    public int restore() throws IllegalStateException {
        if (!hasSnapshot) {
            throw new IllegalStateException("there is no snapshot");
        }
        now.copyFrom(snapshot);
        past.many = 0;
        return now.countries;
    }

    // What the calls share.

    private static boolean isHue(int hue) {
        return hue >= 0 && hue < ALL_HUES;
    }

    private static boolean isManyHues(int many) {
        return many >= 1 && many <= ALL_HUES;
    }

    private static boolean isManyPots(int pots) {
        return pots >= 1 && pots <= MOST_POTS_BROUGHT;
    }

    private static boolean isCrown(int crown) {
        return crown >= 0 && crown <= HIGHEST_CROWN;
    }

    private static int sum(int[] numbers) {
        int sum = 0;
        for (int number : numbers) {
            sum += number;
        }
        return sum;
    }

    private void stopIfNoCountry(int country) {
        if (!now.isCountry(country)) {
            throw new IndexOutOfBoundsException("there is no such country");
        }
    }

    private void stopIfNoHue(int hue) {
        if (!isHue(hue)) {
            throw new IndexOutOfBoundsException("there is no such hue");
        }
    }

    private void stopIfRefused(int found, int first, int second) {
        if (found != NOT_REFUSED) {
            keepReason(found, first, second);
            throw new UnsupportedOperationException("refused");
        }
    }

    private void keepReason(int found, int first, int second) {
        reason = found;
        detail = now.detailOf(found, first, second);
    }

    private void put(char c) {
        if (lineLength < LONGEST_LINE) {
            line[lineLength] = c;
            lineLength++;
        }
    }

    private void putDigit(int digit) {
        put((char) ('0' + digit));
    }

    private void putNeighbours(int country) {
        boolean isFirst = true;
        for (int other = 0; other < now.countries; other++) {
            if (now.areNeighbours(country, other)) {
                if (!isFirst) {
                    put(',');
                }
                putDigit(other);
                isFirst = false;
            }
        }
    }

    private int carryOutAll() {
        before.copyFrom(now);
        int many = 0;
        orders.at = 0;
        while (many < MOST_CHARACTERS && orders.takeOrder()) {
            int first = orders.values[0];
            int second = orders.values[1];
            int third = orders.values[2];
            int verdict = judge(orders.letter, first, second, third);
            if (verdict != CAN_BE) {
                now.copyFrom(before);
                return verdict;
            }
            perform(orders.letter, first, second, third);
            many++;
        }
        past.keep(before);
        return many;
    }

    private int judge(int letter, int first, int second, int third) {
        if (!isInRange(letter, first, second, third)) {
            return WRONG;
        }
        int found = reasonAgainstOrder(letter, first, second);
        if (found == NOT_REFUSED) {
            return CAN_BE;
        }
        keepReason(found, first, second);
        return REFUSED;
    }

    private boolean isInRange(int letter, int first, int second, int third) {
        switch (letter) {
            case 'p': return now.isCountry(first) && isHue(second);
            case 'b': return now.isCountry(first) && now.isCountry(second);
            case 'w': return now.isCountry(first) && isHue(second) && isCrown(third);
            case 'h': return isManyHues(first);
            case 'j': return isHue(first) && isManyPots(second);
            default: return true;
        }
    }

    private int reasonAgainstOrder(int letter, int first, int second) {
        switch (letter) {
            case 'p': return now.reasonAgainstPaint(first, second);
            case 'b': return now.reasonAgainstBorder(first, second);
            case 'x': return now.reasonAgainstBack();
            case 'h': return now.reasonAgainstHues(first);
            default: return NOT_REFUSED;
        }
    }

    private void perform(int letter, int first, int second, int third) {
        switch (letter) {
            case 'p': now.cover(first, second); break;
            case 'b': now.join(first, second); break;
            case 'x': now.stepBack(); break;
            case 'f': now.fillIn(); break;
            case 'w': now.setWish(first, second, third); break;
            case 'h': now.usable = first; break;
            case 'j': now.bring(first, second); break;
            default: break;
        }
    }

    /** All that changes can change, so that undo, save and a refused text need only copy it. */
    private static final class Land {
        final int[] size = new int[MOST_COUNTRIES];
        final int[] hue = new int[MOST_COUNTRIES];
        final int[] wish = new int[MOST_COUNTRIES];
        final int[] crown = new int[MOST_COUNTRIES];
        // One bit for each neighbour, so that sets of countries are compared at once.
        final int[] neighbours = new int[MOST_COUNTRIES];
        final int[] steps = new int[MOST_COUNTRIES];
        final int[] pots = new int[ALL_HUES];
        final int[] used = new int[ALL_HUES];
        int countries = 0;
        int usable = HUES_AT_FIRST;
        int stepCount = 0;
        int takenOff = 0;

        Land() {
            for (int h = 0; h < ALL_HUES; h++) {
                pots[h] = POTS_AT_FIRST;
            }
        }

        void copyFrom(Land other) {
            System.arraycopy(other.size, 0, size, 0, MOST_COUNTRIES);
            System.arraycopy(other.hue, 0, hue, 0, MOST_COUNTRIES);
            System.arraycopy(other.wish, 0, wish, 0, MOST_COUNTRIES);
            System.arraycopy(other.crown, 0, crown, 0, MOST_COUNTRIES);
            System.arraycopy(other.neighbours, 0, neighbours, 0, MOST_COUNTRIES);
            System.arraycopy(other.steps, 0, steps, 0, MOST_COUNTRIES);
            System.arraycopy(other.pots, 0, pots, 0, ALL_HUES);
            System.arraycopy(other.used, 0, used, 0, ALL_HUES);
            countries = other.countries;
            usable = other.usable;
            stepCount = other.stepCount;
            takenOff = other.takenOff;
        }

        // Why something is refused.

        int reasonAgainstCountry() {
            return countries >= MOST_COUNTRIES ? MAP_IS_FULL : NOT_REFUSED;
        }

        int reasonAgainstBorder(int country, int other) {
            if (country == other) {
                return SAME_COUNTRY;
            }
            if (areNeighbours(country, other)) {
                return BORDER_AS_IT_IS;
            }
            if (isPainted(country) && hue[country] == hue[other]) {
                return BOTH_IN_ONE_HUE;
            }
            return NOT_REFUSED;
        }

        int reasonAgainstErasing(int country, int other) {
            if (country == other) {
                return SAME_COUNTRY;
            }
            return areNeighbours(country, other) ? NOT_REFUSED : BORDER_AS_IT_IS;
        }

        int reasonAgainstHues(int many) {
            return lowestPaintedBeyond(many) == NONE ? NOT_REFUSED : HUE_STILL_NEEDED;
        }

        int reasonAgainstPaint(int country, int newHue) {
            if (isPainted(country)) {
                return IS_PAINTED;
            }
            if (newHue >= usable) {
                return HUE_NOT_USABLE;
            }
            if (lowestNeighbourIn(country, newHue) != NONE) {
                return NEIGHBOUR_HAS_HUE;
            }
            return pots[newHue] < size[country] ? TOO_FEW_POTS : NOT_REFUSED;
        }

        int reasonAgainstBack() {
            return stepCount == 0 ? NO_STEP : NOT_REFUSED;
        }

        int detailOf(int reason, int first, int second) {
            switch (reason) {
                case MAP_IS_FULL: return MOST_COUNTRIES;
                case IS_PAINTED: return hue[first];
                case NEIGHBOUR_HAS_HUE: return lowestNeighbourIn(first, second);
                case TOO_FEW_POTS: return size[first] - pots[second];
                case SAME_COUNTRY: return first;
                case BORDER_AS_IT_IS: return second;
                case BOTH_IN_ONE_HUE: return hue[first];
                case HUE_STILL_NEEDED: return lowestPaintedBeyond(first);
                case HUE_NOT_USABLE: return second;
                default: return 0;
            }
        }

        private int lowestNeighbourIn(int country, int wanted) {
            for (int other = 0; other < countries; other++) {
                if (areNeighbours(country, other) && hue[other] == wanted) {
                    return other;
                }
            }
            return NONE;
        }

        private int lowestPaintedBeyond(int many) {
            for (int country = 0; country < countries; country++) {
                if (hue[country] >= many) {
                    return country;
                }
            }
            return NONE;
        }

        // Changes; each is asked for only when it is not refused.

        int addCountry(int newSize) {
            int country = countries;
            if (country < MOST_COUNTRIES) {
                size[country] = newSize;
                hue[country] = NONE;
                wish[country] = NONE;
                crown[country] = 0;
                neighbours[country] = 0;
                countries++;
            }
            return country;
        }

        void join(int country, int other) {
            neighbours[country] |= 1 << other;
            neighbours[other] |= 1 << country;
        }

        void part(int country, int other) {
            neighbours[country] &= ~(1 << other);
            neighbours[other] &= ~(1 << country);
        }

        void bring(int forHue, int many) {
            pots[forHue] = Math.min(MOST_POTS, pots[forHue] + many);
        }

        void setWish(int country, int wished, int newCrown) {
            wish[country] = wished;
            crown[country] = newCrown;
        }

        void cover(int country, int newHue) {
            if (stepCount < MOST_COUNTRIES) {
                hue[country] = newHue;
                pots[newHue] -= size[country];
                used[newHue] += size[country];
                steps[stepCount] = country;
                stepCount++;
            }
        }

        int stepBack() {
            if (stepCount <= 0 || stepCount > MOST_COUNTRIES) {
                return NONE;
            }
            stepCount--;
            int country = steps[stepCount];
            if (isCountry(country)) {
                hue[country] = NONE;
                takenOff++;
            }
            return country;
        }

        int fillIn() {
            int filled = 0;
            while (filled < MOST_COUNTRIES) {
                int country = firstWithOneFreeHue();
                if (country == NONE) {
                    break;
                }
                cover(country, lowestOf(freeHues(country)));
                filled++;
            }
            return filled;
        }

        // Questions about countries.

        boolean isCountry(int country) {
            return country >= 0 && country < countries;
        }

        boolean isPainted(int country) {
            return hue[country] != NONE;
        }

        boolean areNeighbours(int country, int other) {
            return (neighbours[country] >> other & 1) != 0;
        }

        /** One bit for each hue that is free for the country; none if it is painted. */
        int freeHues(int country) {
            if (hue[country] != NONE) {
                return 0;
            }
            int around = huesAround(country);
            int free = 0;
            for (int h = 0; h < usable; h++) {
                if ((around >> h & 1) == 0 && pots[h] >= size[country]) {
                    free |= 1 << h;
                }
            }
            return free;
        }

        private int huesAround(int country) {
            int around = 0;
            for (int other = 0; other < countries; other++) {
                if ((neighbours[country] >> other & 1) != 0 && hue[other] != NONE) {
                    around |= 1 << hue[other];
                }
            }
            return around;
        }

        boolean isStuck(int country) {
            return !isPainted(country) && freeHues(country) == 0;
        }

        boolean isFulfilled(int country) {
            return isPainted(country) && hue[country] == wish[country];
        }

        int countNeighbours(int country) {
            return Integer.bitCount(neighbours[country]);
        }

        int placeOf(int country) {
            for (int place = 0; place < stepCount; place++) {
                if (steps[place] == country) {
                    return place;
                }
            }
            return NONE;
        }

        int firstStuck() {
            for (int country = 0; country < countries; country++) {
                if (isStuck(country)) {
                    return country;
                }
            }
            return NONE;
        }

        int bestToPaint() {
            int best = NONE;
            for (int country = 0; country < countries; country++) {
                if (!isPainted(country) && (best == NONE || isBetterToPaint(country, best))) {
                    best = country;
                }
            }
            return best;
        }

        private boolean isBetterToPaint(int country, int best) {
            int free = Integer.bitCount(freeHues(country));
            int bestFree = Integer.bitCount(freeHues(best));
            if (free != bestFree) {
                return free < bestFree;
            }
            int open = unpainted();
            return Integer.bitCount(neighbours[country] & open) > Integer.bitCount(neighbours[best] & open);
        }

        int gentlestHue(int country) {
            int free = freeHues(country);
            int gentlest = NONE;
            int fewestRobbed = 0;
            for (int h = 0; h < ALL_HUES; h++) {
                if ((free >> h & 1) != 0) {
                    int robbed = countRobbed(country, h);
                    if (gentlest == NONE || robbed < fewestRobbed) {
                        gentlest = h;
                        fewestRobbed = robbed;
                    }
                }
            }
            return gentlest;
        }

        private int countRobbed(int country, int taken) {
            int robbed = 0;
            for (int other = 0; other < countries; other++) {
                if (areNeighbours(country, other) && (freeHues(other) >> taken & 1) != 0) {
                    robbed++;
                }
            }
            return robbed;
        }

        private int firstWithOneFreeHue() {
            for (int country = 0; country < countries; country++) {
                if (Integer.bitCount(freeHues(country)) == 1) {
                    return country;
                }
            }
            return NONE;
        }

        private static int lowestOf(int free) {
            int h = 0;
            while (h < ALL_HUES - 1 && (free >> h & 1) == 0) {
                h++;
            }
            return h;
        }

        // Questions about the whole map.

        int unpainted() {
            int open = 0;
            for (int country = 0; country < countries; country++) {
                if (!isPainted(country)) {
                    open |= 1 << country;
                }
            }
            return open;
        }

        int countPainted() {
            return countries - Integer.bitCount(unpainted());
        }

        int countPaintedIn(int wanted) {
            int many = 0;
            for (int country = 0; country < countries; country++) {
                if (hue[country] == wanted) {
                    many++;
                }
            }
            return many;
        }

        int countBorders() {
            int ends = 0;
            for (int country = 0; country < countries; country++) {
                ends += countNeighbours(country);
            }
            return ends / 2;
        }

        int countStuck() {
            int many = 0;
            for (int country = 0; country < countries; country++) {
                if (isStuck(country)) {
                    many++;
                }
            }
            return many;
        }

        int countWishes() {
            int many = 0;
            for (int country = 0; country < countries; country++) {
                if (wish[country] != NONE) {
                    many++;
                }
            }
            return many;
        }

        int countFulfilled() {
            int many = 0;
            for (int country = 0; country < countries; country++) {
                if (isFulfilled(country)) {
                    many++;
                }
            }
            return many;
        }

        int sumFulfilledCrowns() {
            int sum = 0;
            for (int country = 0; country < countries; country++) {
                if (isFulfilled(country)) {
                    sum += crown[country];
                }
            }
            return sum;
        }

        int sumPaintedSizes() {
            int sum = 0;
            for (int country = 0; country < countries; country++) {
                if (isPainted(country)) {
                    sum += size[country];
                }
            }
            return sum;
        }

        int countHuesNeeded() {
            int many = 1;
            for (int country = 0; country < countries; country++) {
                many = Math.max(many, hue[country] + 1);
            }
            return many;
        }

        boolean isClique(int group) {
            if (group >> countries != 0) {
                return false;
            }
            for (int country = 0; country < countries; country++) {
                int noNeighbours = group & ~neighbours[country];
                if ((noNeighbours >> country & 1) != 0 && noNeighbours != 1 << country) {
                    return false;
                }
            }
            return true;
        }

        boolean noBorderInOneHue() {
            for (int country = 0; country < countries; country++) {
                for (int other = 0; other < country; other++) {
                    if (areNeighbours(country, other) && isPainted(country) && hue[country] == hue[other]) {
                        return false;
                    }
                }
            }
            return true;
        }

        boolean stepsAreThePainted() {
            int stepped = 0;
            for (int place = 0; place < stepCount; place++) {
                stepped |= 1 << steps[place];
            }
            // Equal numbers too, as a country that is stepped on twice shows only once in the set.
            return stepCount == countPainted() && (stepped ^ unpainted()) == (1 << countries) - 1;
        }
    }

    /** The latest changes, each as the map was before it. */
    private static final class Past {
        private final Land[] kept = new Land[MOST_CHANGES];
        private int oldest = 0;
        int many = 0;

        Past() {
            for (int i = 0; i < MOST_CHANGES; i++) {
                kept[i] = new Land();
            }
        }

        void keep(Land land) {
            kept[placeAfter(many)].copyFrom(land);
            if (many < MOST_CHANGES) {
                many++;
            } else {
                oldest = placeAfter(1);
            }
        }

        void takeLatest(Land into) {
            if (many > 0) {
                many--;
                into.copyFrom(kept[placeAfter(many)]);
            }
        }

        private int placeAfter(int distance) {
            return Math.floorMod(oldest + distance, MOST_CHANGES);
        }
    }

    /** Counts the ways to paint what is left, on arrays of its own, so that the map stays as it is. */
    private static final class Counter {
        // For each hue, one bit for each country that has it.
        private final int[] holders = new int[ALL_HUES];
        private final int[] tried = new int[MOST_COUNTRIES];

        int count(Land land, int usable) {
            noteHolders(land);
            return countFrom(0, land.unpainted(), usable, holders, land.neighbours);
        }

        int countWithWish(Land land, int country) {
            int wished = land.wish[country];
            if (land.isPainted(country)) {
                return land.isFulfilled(country) ? count(land, land.usable) : 0;
            }
            noteHolders(land);
            if (wished < 0 || wished >= land.usable || (holders[wished] & land.neighbours[country]) != 0) {
                return 0;
            }
            int bit = 1 << country;
            holders[wished] |= bit;
            return countFrom(0, land.unpainted() & ~bit, land.usable, holders, land.neighbours);
        }

        int countByNumbers(Land land) {
            int numbers = 1;
            for (int country = 0; country < land.countries; country++) {
                numbers *= land.isPainted(country) ? 1 : land.usable;
            }
            int many = 0;
            for (int number = 0; number < numbers; number++) {
                spellOut(land, number);
                if (isWay(land)) {
                    many++;
                }
            }
            return many;
        }

        private void noteHolders(Land land) {
            for (int h = 0; h < ALL_HUES; h++) {
                holders[h] = 0;
                for (int country = 0; country < land.countries; country++) {
                    if (land.hue[country] == h) {
                        holders[h] |= 1 << country;
                    }
                }
            }
        }

        private static int countFrom(int country, int left, int usable, int[] holders, int[] neighbours) {
            if (country >= MOST_COUNTRIES || left >> country == 0) {
                return 1;
            }
            if ((left >> country & 1) == 0) {
                return countFrom(country + 1, left, usable, holders, neighbours);
            }
            // No country that is still to come minds the choice: one count does for all hues.
            if ((neighbours[country] & left) >> country == 0) {
                int choices = countChoices(neighbours[country], usable, holders);
                return choices == 0 ? 0 : choices * countFrom(country + 1, left, usable, holders, neighbours);
            }
            int many = 0;
            for (int h = 0; h < usable; h++) {
                if ((holders[h] & neighbours[country]) == 0) {
                    holders[h] |= 1 << country;
                    many += countFrom(country + 1, left, usable, holders, neighbours);
                    holders[h] &= ~(1 << country);
                }
            }
            return many;
        }

        private static int countChoices(int around, int usable, int[] holders) {
            int choices = 0;
            for (int h = 0; h < usable; h++) {
                if ((holders[h] & around) == 0) {
                    choices++;
                }
            }
            return choices;
        }

        private void spellOut(Land land, int number) {
            int rest = number;
            for (int country = 0; country < land.countries; country++) {
                if (land.isPainted(country) || land.usable < 1) {
                    tried[country] = land.hue[country];
                } else {
                    tried[country] = rest % land.usable;
                    rest /= land.usable;
                }
            }
        }

        private boolean isWay(Land land) {
            for (int country = 0; country < land.countries; country++) {
                for (int other = 0; other < country; other++) {
                    if (land.areNeighbours(country, other) && tried[country] == tried[other]) {
                        return false;
                    }
                }
            }
            return true;
        }
    }

    /** The input, and the order in it that was taken last. */
    private static final class Orders {
        private final char[] text = new char[MOST_CHARACTERS];
        int length = 0;
        int at = 0;
        int letter = 0;
        final int[] values = new int[MOST_VALUES];
        private int found = 0;

        void add(char c) {
            if (length < MOST_CHARACTERS) {
                text[length] = c;
                length++;
            }
        }

        int findError() {
            at = 0;
            for (int order = 0; order < MOST_CHARACTERS; order++) {
                if (!takeParts()) {
                    return at;
                }
                if (at >= length) {
                    return NONE;
                }
                if (text[at] != ';') {
                    return at;
                }
                at++;
            }
            return at;
        }

        boolean takeOrder() {
            boolean isOrder = takeParts();
            at++;
            return isOrder;
        }

        private boolean takeParts() {
            if (at >= length) {
                return false;
            }
            letter = text[at];
            String shape = shapeOf(letter);
            if (shape == null) {
                return false;
            }
            at++;
            found = 0;
            for (int i = 0; i < shape.length(); i++) {
                if (!takePart(shape.charAt(i))) {
                    return false;
                }
            }
            return true;
        }

        /** What follows the letter: d stands for one digit, n for a number of one or two. */
        private static String shapeOf(int letter) {
            switch (letter) {
                case 'p': return "d=d";
                case 'b': return "d-d";
                case 'x': return "";
                case 'f': return "";
                case 'w': return "d=d*d";
                case 'h': return "n";
                case 'j': return "d+n";
                default: return null;
            }
        }

        private boolean takePart(char part) {
            if (part == 'd') {
                return takeDigits(1);
            }
            if (part == 'n') {
                return takeDigits(2);
            }
            if (at >= length || text[at] != part) {
                return false;
            }
            at++;
            return true;
        }

        private boolean takeDigits(int most) {
            int value = 0;
            int digits = 0;
            while (digits < most && at < length && text[at] >= '0' && text[at] <= '9') {
                value = value * 10 + (text[at] - '0');
                at++;
                digits++;
            }
            if (digits == 0 || found >= MOST_VALUES) {
                return false;
            }
            values[found] = value;
            found++;
            return true;
        }
    }
}
