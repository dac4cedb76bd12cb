import java.util.ArrayList;
import java.util.Collections;
import java.util.List;
import java.util.NoSuchElementException;
import java.util.TreeSet;
import java.util.regex.Matcher;
import java.util.regex.Pattern;

/** The document once more, written apart from FlagHues and as plainly as it goes, to compare with. */
final class PlainPainter {
    private static final class Country {
        int size;
        Integer hue;
        Integer wish;
        int crown;
    }

    /** What changes can change. */
    private static final class Sheet {
        final List<Country> countries = new ArrayList<>();
        final TreeSet<String> borders = new TreeSet<>();
        final List<Integer> steps = new ArrayList<>();
        final int[] pots = {9, 9, 9, 9, 9};
        final int[] used = new int[5];
        int usable = 3;
        int takenOff;

        Sheet copy() {
            Sheet copy = new Sheet();
            for (Country old : countries) {
                Country c = new Country();
                c.size = old.size;
                c.hue = old.hue;
                c.wish = old.wish;
                c.crown = old.crown;
                copy.countries.add(c);
            }
            copy.borders.addAll(borders);
            copy.steps.addAll(steps);
            System.arraycopy(pots, 0, copy.pots, 0, 5);
            System.arraycopy(used, 0, copy.used, 0, 5);
            copy.usable = usable;
            copy.takenOff = takenOff;
            return copy;
        }
    }

    private static final Pattern ORDER =
            Pattern.compile("p\\d=\\d|b\\d-\\d|x|f|w\\d=\\d\\*\\d|h\\d{1,2}|j\\d\\+\\d{1,2}");
    private static final Pattern TEXT = Pattern.compile("(?:" + ORDER + ")(?:;(?:" + ORDER + "))*");

    private Sheet sheet = new Sheet();
    private Sheet saved;
    private final List<Sheet> undos = new ArrayList<>();
    private String input = "";
    private String line = "";
    private int errorPosition = -1;
    private int[] refusal;

    // Helpers.

    private Country at(int country) {
        if (country < 0 || country >= sheet.countries.size()) {
            throw new IndexOutOfBoundsException();
        }
        return sheet.countries.get(country);
    }

    private void hueOrThrow(int hue) {
        if (hue < 0 || hue > 4) {
            throw new IndexOutOfBoundsException();
        }
    }

    private void fromTo(int number, int low, int high) {
        if (number < low || number > high) {
            throw new IllegalArgumentException();
        }
    }

    private void refuse(int reason, int detail) {
        refusal = new int[] {reason, detail};
        throw new UnsupportedOperationException();
    }

    private void note(Sheet before) {
        undos.add(before);
        if (undos.size() > 8) {
            undos.remove(0);
        }
    }

    private static String edge(int a, int b) {
        return Math.min(a, b) + "-" + Math.max(a, b);
    }

    private boolean linked(int a, int b) {
        return sheet.borders.contains(edge(a, b));
    }

    private List<Integer> around(int country) {
        List<Integer> list = new ArrayList<>();
        for (int i = 0; i < sheet.countries.size(); i++) {
            if (linked(country, i)) {
                list.add(i);
            }
        }
        return list;
    }

    private List<Integer> free(int country) {
        List<Integer> list = new ArrayList<>();
        Country c = at(country);
        if (c.hue == null) {
            for (int h = 0; h < sheet.usable; h++) {
                boolean taken = false;
                for (int n : around(country)) {
                    taken |= at(n).hue != null && at(n).hue == h;
                }
                if (!taken && sheet.pots[h] >= c.size) {
                    list.add(h);
                }
            }
        }
        return list;
    }

    private List<Integer> open() {
        List<Integer> list = new ArrayList<>();
        for (int i = 0; i < sheet.countries.size(); i++) {
            if (at(i).hue == null) {
                list.add(i);
            }
        }
        return list;
    }

    private List<Integer> stuckOnes() {
        List<Integer> list = new ArrayList<>();
        for (int i : open()) {
            if (free(i).isEmpty()) {
                list.add(i);
            }
        }
        return list;
    }

    private boolean fulfils(Country c) {
        return c.hue != null && c.wish != null && c.hue.intValue() == c.wish.intValue();
    }

    /** All ways, each tried as a number with a digit for each open country; only those with the wanted hue count. */
    private int enumerate(int usable, int wanting) {
        List<Integer> open = open();
        int size = sheet.countries.size();
        boolean[][] link = new boolean[size][size];
        int[] hue = new int[size];
        for (int i = 0; i < size; i++) {
            for (int n : around(i)) {
                link[i][n] = true;
            }
            hue[i] = at(i).hue == null ? -1 : at(i).hue;
        }
        int total = 1;
        for (int i = 0; i < open.size(); i++) {
            total *= usable;
        }
        int count = 0;
        for (int number = 0; number < total; number++) {
            int rest = number;
            for (int i : open) {
                hue[i] = rest % usable;
                rest /= usable;
            }
            boolean good = wanting < 0 || hue[wanting] == at(wanting).wish;
            for (int i = 0; good && i < size; i++) {
                for (int j = 0; good && j < i; j++) {
                    good = !link[i][j] || hue[i] != hue[j];
                }
            }
            count += good ? 1 : 0;
        }
        return count;
    }

    // The changes, without their entry for undo.

    private int doCountry(int size) {
        fromTo(size, 1, 9);
        if (sheet.countries.size() == 7) {
            refuse(1, 7);
        }
        Country c = new Country();
        c.size = size;
        sheet.countries.add(c);
        return sheet.countries.size() - 1;
    }

    private int doBorder(int a, int b) {
        Country first = at(a);
        Country second = at(b);
        if (a == b) {
            refuse(5, a);
        }
        if (linked(a, b)) {
            refuse(6, b);
        }
        if (first.hue != null && first.hue.equals(second.hue)) {
            refuse(7, first.hue);
        }
        sheet.borders.add(edge(a, b));
        return sheet.borders.size();
    }

    private int doErase(int a, int b) {
        at(a);
        at(b);
        if (a == b) {
            refuse(5, a);
        }
        if (!linked(a, b)) {
            refuse(6, b);
        }
        sheet.borders.remove(edge(a, b));
        return sheet.borders.size();
    }

    private int doHues(int many) {
        fromTo(many, 1, 5);
        for (int i = 0; i < sheet.countries.size(); i++) {
            if (at(i).hue != null && at(i).hue >= many) {
                refuse(9, i);
            }
        }
        int before = sheet.usable;
        sheet.usable = many;
        return before;
    }

    private int doPots(int hue, int pots) {
        hueOrThrow(hue);
        fromTo(pots, 1, 50);
        sheet.pots[hue] = Math.min(99, sheet.pots[hue] + pots);
        return sheet.pots[hue];
    }

    private int[] barsFor(int country, int hue) {
        Country c = at(country);
        hueOrThrow(hue);
        if (c.hue != null) {
            return new int[] {2, c.hue};
        }
        if (hue >= sheet.usable) {
            return new int[] {10, hue};
        }
        for (int n : around(country)) {
            if (at(n).hue != null && at(n).hue == hue) {
                return new int[] {3, n};
            }
        }
        if (sheet.pots[hue] < c.size) {
            return new int[] {4, c.size - sheet.pots[hue]};
        }
        return new int[] {0, 0};
    }

    private int doPaint(int country, int hue) {
        int[] bars = barsFor(country, hue);
        if (bars[0] != 0) {
            refuse(bars[0], bars[1]);
        }
        at(country).hue = hue;
        sheet.pots[hue] -= at(country).size;
        sheet.used[hue] += at(country).size;
        sheet.steps.add(country);
        return sheet.steps.size();
    }

    private int doBack() {
        if (sheet.steps.isEmpty()) {
            refuse(8, 0);
        }
        int country = sheet.steps.remove(sheet.steps.size() - 1);
        at(country).hue = null;
        sheet.takenOff++;
        return country;
    }

    private int doFill() {
        int filled = 0;
        boolean again = true;
        while (again) {
            again = false;
            for (int i : open()) {
                List<Integer> free = free(i);
                if (free.size() == 1) {
                    doPaint(i, free.get(0));
                    filled++;
                    again = true;
                    break;
                }
            }
        }
        return filled;
    }

    private int doWish(int country, int hue, int crown) {
        Country c = at(country);
        hueOrThrow(hue);
        fromTo(crown, 0, 9);
        int before = c.wish == null ? -1 : c.wish;
        c.wish = hue;
        c.crown = crown;
        return before;
    }

    private void doOrder(String order) {
        char kind = order.charAt(0);
        String[] parts = order.substring(1).split("[=*+-]");
        int[] n = new int[3];
        for (int i = 0; i < parts.length; i++) {
            n[i] = parts[i].isEmpty() ? 0 : Integer.parseInt(parts[i]);
        }
        if (kind == 'p') {
            doPaint(n[0], n[1]);
        } else if (kind == 'b') {
            doBorder(n[0], n[1]);
        } else if (kind == 'x') {
            doBack();
        } else if (kind == 'f') {
            doFill();
        } else if (kind == 'w') {
            doWish(n[0], n[1], n[2]);
        } else if (kind == 'h') {
            doHues(n[0]);
        } else {
            doPots(n[0], n[1]);
        }
    }

    // The face.

    /** A change by its name, with its entry for undo; when it throws, all is as it was. */
    int change(String name, int... args) {
        Sheet before = sheet.copy();
        try {
            int answer = changeOnly(name, args);
            note(before);
            return answer;
        } catch (RuntimeException e) {
            sheet = before;
            throw e;
        }
    }

    private int changeOnly(String name, int... args) {
        switch (name) {
            case "country": return doCountry(args[0]);
            case "border": return doBorder(args[0], args[1]);
            case "erase": return doErase(args[0], args[1]);
            case "hues": return doHues(args[0]);
            case "pots": return doPots(args[0], args[1]);
            case "paint": return doPaint(args[0], args[1]);
            case "back": return doBack();
            case "fill": return doFill();
            case "wish": return doWish(args[0], args[1], args[2]);
            case "read": return doRead();
            default: throw new AssertionError(name);
        }
    }

    private int doRead() {
        String text = input;
        input = "";
        errorPosition = TEXT.matcher(text).matches() ? -1 : errorIn(text);
        if (errorPosition >= 0) {
            throw new IllegalArgumentException();
        }
        String[] orders = text.split(";");
        for (String order : orders) {
            try {
                doOrder(order);
            } catch (IndexOutOfBoundsException e) {
                throw new IllegalArgumentException();
            }
        }
        return orders.length;
    }

    private static int errorIn(String text) {
        for (int i = 0; i < text.length(); i++) {
            Matcher matcher = TEXT.matcher(text.substring(0, i + 1));
            if (!matcher.matches() && !matcher.hitEnd()) {
                return i;
            }
        }
        return text.length();
    }

    boolean hasBorder(int a, int b) {
        at(a);
        at(b);
        return linked(a, b);
    }

    int countryOf(int country, int what) {
        Country c = at(country);
        fromTo(what, 0, 6);
        int[] answers = {c.size, c.hue == null ? -1 : c.hue, around(country).size(), free(country).size(),
            c.wish == null ? -1 : c.wish, c.crown, sheet.steps.indexOf(country)};
        return answers[what];
    }

    int hueOf(int hue, int what) {
        hueOrThrow(hue);
        fromTo(what, 0, 3);
        int painted = 0;
        for (Country c : sheet.countries) {
            painted += c.hue != null && c.hue == hue ? 1 : 0;
        }
        return new int[] {sheet.pots[hue], hue < sheet.usable ? 1 : 0, painted, sheet.used[hue]}[what];
    }

    int bars(int country, int hue) {
        return barsFor(country, hue)[0];
    }

    int step(int place) {
        if (place < 0 || place >= sheet.steps.size()) {
            throw new NoSuchElementException();
        }
        return sheet.steps.get(place);
    }

    int stuck() {
        if (stuckOnes().isEmpty()) {
            throw new NoSuchElementException();
        }
        return stuckOnes().get(0);
    }

    int next() {
        List<Integer> open = open();
        if (open.isEmpty()) {
            throw new NoSuchElementException();
        }
        List<int[]> rows = new ArrayList<>();
        for (int i : open) {
            List<Integer> near = around(i);
            near.retainAll(open);
            rows.add(new int[] {free(i).size(), -near.size(), i});
        }
        return Collections.min(rows, java.util.Arrays::compare)[2];
    }

    int gentle(int country) {
        at(country);
        List<Integer> free = free(country);
        if (free.isEmpty()) {
            throw new NoSuchElementException();
        }
        List<int[]> rows = new ArrayList<>();
        for (int h : free) {
            int robbed = 0;
            for (int n : around(country)) {
                robbed += free(n).contains(h) ? 1 : 0;
            }
            rows.add(new int[] {robbed, h});
        }
        return Collections.min(rows, java.util.Arrays::compare)[1];
    }

    int fulfilled() {
        int sum = 0;
        for (Country c : sheet.countries) {
            sum += fulfils(c) ? c.crown : 0;
        }
        return sum;
    }

    int ways() {
        return enumerate(sheet.usable, -1);
    }

    int waysFor(int country) {
        if (at(country).wish == null) {
            throw new NoSuchElementException();
        }
        return enumerate(sheet.usable, country);
    }

    int fewest() {
        int low = 1;
        for (Country c : sheet.countries) {
            low = c.hue == null ? low : Math.max(low, c.hue + 1);
        }
        for (int many = low; many <= 5; many++) {
            if (enumerate(many, -1) > 0) {
                return many;
            }
        }
        throw new NoSuchElementException();
    }

    int clique() {
        return grow(new ArrayList<>(), 0);
    }

    private int grow(List<Integer> chosen, int from) {
        int best = chosen.size();
        for (int i = from; i < sheet.countries.size(); i++) {
            if (around(i).containsAll(chosen)) {
                List<Integer> more = new ArrayList<>(chosen);
                more.add(i);
                best = Math.max(best, grow(more, i + 1));
            }
        }
        return best;
    }

    int line(int country) {
        Country c = at(country);
        String near = around(country).toString().replace("[", "(").replace("]", ")").replace(" ", "");
        line = country + ":" + (c.hue == null ? "-" : c.hue) + near + (stuckOnes().contains(country) ? "!" : "");
        return line.length();
    }

    char character(int index) {
        if (index < 0 || index >= line.length()) {
            throw new IndexOutOfBoundsException();
        }
        return line.charAt(index);
    }

    int append(char c) {
        if (input.length() == 60) {
            throw new IllegalStateException();
        }
        input += c;
        return input.length();
    }

    int errorPosition() {
        return errorPosition;
    }

    int refusal(boolean isDetail) {
        if (refusal == null) {
            throw new NoSuchElementException();
        }
        return refusal[isDetail ? 1 : 0];
    }

    int account(int what) {
        fromTo(what, 0, 12);
        int wishes = 0;
        int fulfilled = 0;
        for (Country c : sheet.countries) {
            wishes += c.wish == null ? 0 : 1;
            fulfilled += fulfils(c) ? 1 : 0;
        }
        int pots = 0;
        int used = 0;
        for (int h = 0; h < 5; h++) {
            pots += sheet.pots[h];
            used += sheet.used[h];
        }
        int[] answers = {sheet.countries.size(), sheet.borders.size(), sheet.usable,
            sheet.countries.size() - open().size(), stuckOnes().size(), sheet.steps.size(), pots, used, sheet.takenOff,
            wishes, fulfilled, input.length(), undos.size()};
        return answers[what];
    }

    double meanSize() {
        double sum = 0;
        double many = 0;
        for (Country c : sheet.countries) {
            if (c.hue != null) {
                sum += c.size;
                many++;
            }
        }
        if (many == 0) {
            throw new ArithmeticException();
        }
        return sum / many;
    }

    float painted() {
        if (sheet.countries.isEmpty()) {
            throw new ArithmeticException();
        }
        return (float) sheet.steps.size() / (float) sheet.countries.size();
    }

    int undo() {
        if (undos.isEmpty()) {
            throw new IllegalStateException();
        }
        sheet = undos.remove(undos.size() - 1);
        return undos.size();
    }

    int save() {
        saved = sheet.copy();
        return sheet.countries.size();
    }

    int restore() {
        if (saved == null) {
            throw new IllegalStateException();
        }
        sheet = saved.copy();
        undos.clear();
        return sheet.countries.size();
    }
}
