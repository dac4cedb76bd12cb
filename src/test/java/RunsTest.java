import java.util.ArrayList;
import java.util.List;

/** All promises: long mixed runs of calls on FlagHues and on PlainPainter, whose answers must be the same. */
public final class RunsTest {
    private static final int RUNS = 3000;
    private static final int CALLS = 512;
    private static final int SHOWN = 20;

    private long seed;
    private FlagHues x = new FlagHues();
    private PlainPainter y = new PlainPainter();
    private final List<String> log = new ArrayList<>();
    private int calls = 0;

    private RunsTest(long seed) {
        this.seed = seed * 0x9E3779B97F4A7C15L + 1;
    }

    public static void main(String[] args) {
        int runs = args.length > 0 ? Integer.parseInt(args[0]) : RUNS;
        int wrong = 0;
        for (int run = 1; run <= runs; run++) {
            wrong += new RunsTest(run).isAsDue(run) ? 0 : 1;
        }
        System.out.println(runs + " runs of " + CALLS + " calls, " + wrong + " of them not as due");
        if (wrong != 0) {
            System.exit(1);
        }
    }

    private boolean isAsDue(int run) {
        while (calls < CALLS) {
            if (!sameAnswer()) {
                System.out.println("run " + run + ", call " + calls + ":");
                for (String row : log.subList(Math.max(0, log.size() - SHOWN), log.size())) {
                    System.out.println("  " + row);
                }
                return false;
            }
        }
        return true;
    }

    /** The seeded numbers of a run: the same at each time. */
    private int below(int bound) {
        seed = seed * 6364136223846793005L + 1442695040888963407L;
        return (int) ((seed >>> 33) % bound);
    }

    private int country() {
        return below(25) == 0 ? below(10) - 2 : below(Math.max(1, y.account(0)));
    }

    private int hue() {
        return below(30) == 0 ? below(9) - 2 : below(5);
    }

    /** An object answers at most 512 calls as the document says: what is asked beyond that counts as the same. */
    private boolean same(String call, Checks.Call here, Checks.Call there) {
        if (calls == CALLS) {
            return true;
        }
        calls++;
        String got = Checks.outcomeOf(here);
        String want = Checks.outcomeOf(there);
        log.add(call + " answered " + got + (got.equals(want) ? "" : ", due is " + want));
        return got.equals(want);
    }

    private boolean sameAnswer() {
        int kind = below(100);
        if (kind < 45) {
            return sameChange(below(20));
        }
        if (kind < 55) {
            return sameText();
        }
        return kind < 75 ? sameQuestion(below(13)) : sameAccount(below(13));
    }

    private boolean sameChange(int kind) {
        int a = country();
        int b = country();
        int h = hue();
        int n = below(14) == 0 ? below(14) - 2 : 1 + below(9);
        switch (kind) {
            case 0: return same("country " + n, () -> x.country(n), () -> y.change("country", n));
            case 1: case 2: case 3:
                return same("border " + a + " " + b, () -> x.border(a, b), () -> y.change("border", a, b));
            case 4: return same("erase " + a + " " + b, () -> x.erase(a, b), () -> y.change("erase", a, b));
            case 5: return same("hues " + h, () -> x.hues(h + 1), () -> y.change("hues", h + 1));
            case 6: case 7: {
                int many = below(5) == 0 ? below(60) - 5 : n;
                return same("pots " + h + " " + many, () -> x.pots(h, many), () -> y.change("pots", h, many));
            }
            case 8: case 9: case 10: case 11:
                return same("paint " + a + " " + h, () -> x.paint(a, h), () -> y.change("paint", a, h));
            case 12: case 13: return same("back", () -> x.back(), () -> y.change("back"));
            case 14: return same("fill", () -> x.fill(), () -> y.change("fill"));
            case 15: case 16:
                return same("wish " + a + " " + h + " " + n, () -> x.wish(a, h, n), () -> y.change("wish", a, h, n));
            case 17: return sameUndos(below(4) == 0 ? 1 + below(9) : 1);
            case 18: return below(3) != 0 || same("save", () -> x.save(), () -> y.save());
            default: return below(3) != 0 || same("restore", () -> x.restore(), () -> y.restore());
        }
    }

    /** Many in a row, so that countries go, and others come in their place. */
    private boolean sameUndos(int many) {
        boolean isSame = true;
        for (int i = 0; i < many; i++) {
            isSame &= same("undo", () -> x.undo(), () -> y.undo());
        }
        return isSame;
    }

    private String order() {
        String c = "" + Math.max(0, country());
        switch (below(8)) {
            case 0: case 1: return "p" + c + "=" + below(5);
            case 2: return "b" + c + "-" + Math.max(0, country());
            case 3: return "x";
            case 4: return "f";
            case 5: return "w" + c + "=" + below(5) + "*" + below(10);
            case 6: return "h" + (below(2) == 0 ? "0" : "") + (1 + below(5));
            default: return "j" + below(5) + "+" + below(below(4) == 0 ? 100 : 30);
        }
    }

    private boolean sameText() {
        StringBuilder text = new StringBuilder(order());
        while (below(3) != 0) {
            text.append(';').append(order());
        }
        if (below(4) == 0) {
            text.setCharAt(below(text.length()), "pbxfwhj;=*+-0123456789 \u0100".charAt(below(24)));
        }
        if (below(8) == 0) {
            text.setLength(below(text.length()));
        }
        boolean isSame = true;
        for (int i = 0; i < text.length(); i++) {
            char c = text.charAt(i);
            isSame &= same("append " + c, () -> x.append(c), () -> y.append(c));
        }
        return isSame && (below(10) == 0 || same("read", () -> x.read(), () -> y.change("read")))
                && same("errorPosition", () -> x.errorPosition(), () -> y.errorPosition());
    }

    private boolean sameQuestion(int kind) {
        int a = country();
        int b = country();
        int h = hue();
        int what = below(9) - 1;
        switch (kind) {
            case 0: return same("hasBorder " + a + " " + b, () -> x.hasBorder(a, b), () -> y.hasBorder(a, b));
            case 1: return same("bars " + a + " " + h, () -> x.bars(a, h), () -> y.bars(a, h));
            case 2: return same("step " + what, () -> x.step(what), () -> y.step(what));
            case 3: return same("stuck", () -> x.stuck(), () -> y.stuck());
            case 4: return same("next", () -> x.next(), () -> y.next());
            case 5: return same("gentle " + a, () -> x.gentle(a), () -> y.gentle(a));
            case 6: return same("fulfilled", () -> x.fulfilled(), () -> y.fulfilled());
            case 7: return same("ways", () -> x.ways(), () -> y.ways());
            case 8: return same("waysAgain", () -> x.waysAgain(), () -> y.ways());
            case 9: return same("waysFor " + a, () -> x.waysFor(a), () -> y.waysFor(a));
            case 10: return same("fewest", () -> x.fewest(), () -> y.fewest());
            case 11: return same("clique", () -> x.clique(), () -> y.clique());
            default: return same("refusal", () -> x.refusal(what > 3), () -> y.refusal(what > 3));
        }
    }

    private boolean sameAccount(int kind) {
        int a = country();
        int h = hue();
        int what = below(9) - 1;
        int whatAccount = below(15) - 1;
        int index = below(19) - 1;
        switch (kind) {
            case 0: case 1: case 2:
                return same("countryOf " + a + " " + what, () -> x.countryOf(a, what), () -> y.countryOf(a, what));
            case 3: case 4:
                return same("hueOf " + h + " " + what, () -> x.hueOf(h, what), () -> y.hueOf(h, what));
            case 5: case 6: case 7:
                return same("account " + whatAccount, () -> x.account(whatAccount), () -> y.account(whatAccount));
            case 8: return same("isWell", () -> x.isWell(), () -> true);
            case 9: return same("meanSize", () -> x.meanSize(), () -> y.meanSize());
            case 10: return same("painted", () -> x.painted(), () -> y.painted());
            case 11: return same("line " + a, () -> x.line(a), () -> y.line(a));
            default: return same("character " + index, () -> x.character(index), () -> y.character(index));
        }
    }
}
