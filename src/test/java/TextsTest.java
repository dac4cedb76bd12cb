import java.util.NoSuchElementException;

/** Promises 27 to 30: the input, texts of orders, error positions and reasons. */
public final class TextsTest {
    private static final Class<IllegalArgumentException> ILLEGAL = IllegalArgumentException.class;
    private static final Class<UnsupportedOperationException> REFUSED = UnsupportedOperationException.class;

    public static void main(String[] args) {
        Checks.runTestsOf(TextsTest.class);
    }

    private static void promise27Append() {
        FlagHues x = new FlagHues();
        for (int i = 1; i <= 60; i++) {
            Checks.due("append number " + i, i, x.append((char) (i * 1000)));
        }
        Checks.dueThrow("append number 61", IllegalStateException.class, () -> x.append('f'));
        Checks.due("account(11)", 60, x.account(11));
        Checks.dueThrow("read()", ILLEGAL, x::read);
        Checks.due("append after read", 1, x.append('f'));
        Checks.due("append is no change", 0, x.account(12));
        x.country(1);
        x.save();
        x.undo();
        x.restore();
        Checks.due("undo and restore leave the input", 1, x.account(11));
        Checks.due("the input is still f", 1, x.read());
    }

    private static void promise28Read() {
        FlagHues x = Checks.withSizes(2, 3, 4);
        Checks.due("read() of each kind of order", 9,
                Checks.read(x, "b0-2;w1=4*7;h5;j3+50;p1=4;f;p0=3;x;h05"));
        Checks.due("b", true, x.hasBorder(0, 2));
        Checks.due("w, the wish", 4, x.countryOf(1, 4));
        Checks.due("w, the crown", 7, x.countryOf(1, 5));
        Checks.due("h", 5, x.account(2));
        Checks.due("j and p", 57, x.hueOf(3, 0));
        Checks.due("p", 4, x.countryOf(1, 1));
        Checks.due("x", -1, x.countryOf(0, 1));
        Checks.due("x counts", 1, x.account(8));
        Checks.due("the text is one change", 4, x.account(12));
        Checks.due("the input is empty", 0, x.account(11));
        Checks.due("one undo takes all back", 3, x.undo());
        Checks.due("no border then", 0, x.account(1));
        Checks.due("no step then", 0, x.account(5));
        Checks.due("three hues then", 3, x.account(2));
        Checks.due("f fills in", 1, Checks.read(Checks.withSizes(1), "f"));
        FlagHues y = Checks.withSizes(1, 1);
        Checks.due("h1;f", 2, Checks.read(y, "h1;f"));
        Checks.due("f painted both", 2, y.account(3));
        Checks.due("x;x;h03", 3, Checks.read(y, "x;x;h03"));
        Checks.due("h03 sets three", 3, y.account(2));
        Checks.due("j4+5", 1, Checks.read(y, "j4+5"));
        Checks.due("five pots", 14, y.hueOf(4, 0));
        Checks.due("j4+05", 1, Checks.read(y, "j4+05"));
        Checks.due("five pots more", 19, y.hueOf(4, 0));
        Checks.due("thirty orders", 30, Checks.read(y, "f;f;f;f;f;f;f;f;f;f;f;f;f;f;f;f;f;f;f;f;f;f;f;f;f;f;f;f;f;f"));
    }

    private static void promise28ReadIsAllOrNothing() {
        FlagHues x = Checks.withSizes(1, 1, 1);
        x.paint(2, 0);
        String before = Checks.pictureOf(x);
        Checks.type(x, "b0-1;p0=0;j1+9;h5;w0=1*2;x;f;p2=1;b1-1;q");
        Checks.dueThrow("a text with an error", ILLEGAL, x::read);
        Checks.due("the map after it", before, Checks.pictureOf(x));
        Checks.type(x, "b0-1;p0=0;j1+9;h5;w0=1*2;x;f;p2=4;b1-1;h9");
        Checks.dueThrow("a text that is refused", REFUSED, x::read);
        Checks.due("the map after that", before, Checks.pictureOf(x));
        Checks.due("the reason is found on the way", 2, x.refusal(false));
        Checks.due("and so is the detail", 0, x.refusal(true));
        Checks.due("the input is empty", 0, x.account(11));
        Checks.type(x, "b0-1;p0=0;h9;b1-1");
        Checks.dueThrow("the first that cannot be is out of range", ILLEGAL, x::read);
        Checks.due("the map after all", before, Checks.pictureOf(x));
        Checks.due("the reason stays", 2, x.refusal(false));
        Checks.due("the input is empty then", 0, x.account(11));
        Checks.due("the position", -1, x.errorPosition());
    }

    private static void promise28OrdersOutOfRange() {
        FlagHues x = Checks.withSizes(1, 1, 1);
        x.paint(0, 0);
        String before = Checks.pictureOf(x);
        String[] texts = {"p3=0", "p0=5", "p9=9", "b0-3", "b3-0", "b3-3", "w3=0*0", "w0=5*0", "h0", "h00", "h6",
            "h99", "j5+1", "j0+0", "j0+00", "j0+51", "j9+99", "h7;x;x"};
        for (String text : texts) {
            Checks.type(x, text);
            Checks.dueThrow("read() of " + text, ILLEGAL, x::read);
            Checks.due("the position of " + text, -1, x.errorPosition());
        }
        Checks.due("the map after all", before, Checks.pictureOf(x));
        Checks.dueThrow("no reason by that", NoSuchElementException.class, () -> x.refusal(false));
    }

    private static void promise28OrdersRefused() {
        FlagHues x = Checks.withSizes(9, 1, 1, 1);
        Checks.read(x, "b0-1;b0-2;p2=1;p1=1;p3=2");
        dueRefusedText(x, "p3=0", 2, 2);
        dueRefusedText(x, "p0=3", 10, 3);
        dueRefusedText(x, "p0=1", 3, 1);
        dueRefusedText(x, "p0=2", 4, 1);
        dueRefusedText(x, "b2-2", 5, 2);
        dueRefusedText(x, "b1-0", 6, 0);
        dueRefusedText(x, "b2-1", 7, 1);
        dueRefusedText(x, "x;x;x;x", 8, 0);
        dueRefusedText(x, "h2", 9, 3);
        dueRefusedText(x, "h01", 9, 1);
        Checks.due("the steps are still there", 3, x.account(5));
    }

    private static void dueRefusedText(FlagHues x, String text, int reason, int detail) {
        Checks.type(x, text);
        Checks.dueRefusal("read() of " + text, reason, detail, x, x::read);
        Checks.due("the position of " + text, -1, x.errorPosition());
    }

    private static void promise29ErrorPosition() {
        dueError("", 0);
        dueError(";", 0);
        dueError("P0=0", 0);
        dueError(" f", 0);
        dueError("0", 0);
        dueError("p", 1);
        dueError("pp", 1);
        dueError("p=", 1);
        dueError("p0", 2);
        dueError("p00", 2);
        dueError("p0-", 2);
        dueError("p0=", 3);
        dueError("p0=;", 3);
        dueError("p0=00", 4);
        dueError("b0=0", 2);
        dueError("b0-0;", 5);
        dueError("xx", 1);
        dueError("x;", 2);
        dueError("x;;", 2);
        dueError("f0", 1);
        dueError("f ", 1);
        dueError("w0=0", 4);
        dueError("w0=0+", 4);
        dueError("w0=0*", 5);
        dueError("w0=0*00", 6);
        dueError("h", 1);
        dueError("h;", 1);
        dueError("h-1", 1);
        dueError("h123", 3);
        dueError("h1f", 2);
        dueError("h12f", 3);
        dueError("j0", 2);
        dueError("j0*1", 2);
        dueError("j01", 2);
        dueError("j0+", 3);
        dueError("j0+;", 3);
        dueError("j0+123", 5);
        dueError("p0/", 2);
        dueError("p:", 1);
        dueError("p/", 1);
        dueError("p" + (char) 0x0663 + "=0", 1);
        dueError("f" + (char) 0, 1);
        dueError((char) 0x1070 + "0=0", 0);
        dueError("f;f;f;f;f;f;f;f;f;f;f;f;f;f;f;f;f;f;f;f;f;f;f;f;f;f;f;f;f;f;", 60);
    }

    private static void dueError(String text, int position) {
        FlagHues x = Checks.withSizes(1);
        Checks.type(x, text);
        Checks.dueThrow("read() of " + text, ILLEGAL, x::read);
        Checks.due("the position of " + text, position, x.errorPosition());
        Checks.due("the input after " + text, 0, x.account(11));
        Checks.due("the changes after " + text, 1, x.account(12));
    }

    private static void promise29ErrorPositionAfterALongerText() {
        String[] whole = {"p0=0", "p0=0", "p0=0", "w0=0*1", "w0=0*1", "j0+11", "j0+11", "h3", "f;f"};
        String[] cut = {"p", "p0", "p0=", "w0=0", "w0=0*", "j0", "j0+", "h", "f;"};
        for (int i = 0; i < whole.length; i++) {
            FlagHues x = Checks.withSizes(1);
            Checks.read(x, whole[i]);
            Checks.type(x, cut[i]);
            Checks.dueThrow("read() of " + cut[i] + " after " + whole[i], ILLEGAL, x::read);
            Checks.due("its position", cut[i].length(), x.errorPosition());
            Checks.type(x, sixtyCharactersThatEndWith(cut[i]));
            Checks.dueThrow("read() of 60 characters that end with " + cut[i], ILLEGAL, x::read);
            Checks.due("their position", 60, x.errorPosition());
        }
        FlagHues y = new FlagHues();
        Checks.read(y, "j0+12");
        Checks.due("a number of one digit after one of two", 1, Checks.read(y, "j0+1"));
        Checks.due("the pots of 9, 12 and 1", 22, y.hueOf(0, 0));
        Checks.due("a number at the very end", 29, Checks.read(y, sixtyCharactersThatEndWith("j0+2")));
        Checks.due("the pots then", 24, y.hueOf(0, 0));
    }

    private static String sixtyCharactersThatEndWith(String end) {
        StringBuilder text = new StringBuilder(end.length() % 2 == 0 ? "" : "h3;");
        while (text.length() + end.length() < 60) {
            text.append("f;");
        }
        return text.append(end).toString();
    }

    private static void promise29ErrorPositionStays() {
        FlagHues x = Checks.withSizes(1);
        Checks.due("errorPosition() before read", -1, x.errorPosition());
        Checks.type(x, "p0=0;?");
        Checks.due("errorPosition() before read, with an input", -1, x.errorPosition());
        Checks.dueThrow("read()", ILLEGAL, x::read);
        Checks.due("errorPosition()", 5, x.errorPosition());
        x.save();
        x.undo();
        x.restore();
        Checks.due("undo and restore leave it", 5, x.errorPosition());
        x.append('f');
        Checks.due("append leaves it", 5, x.errorPosition());
        x.read();
        Checks.due("a text without an error", -1, x.errorPosition());
    }

    private static void promise30Refusal() {
        FlagHues x = Checks.withSizes(2, 2);
        Checks.dueThrow("refusal(false) at first", NoSuchElementException.class, () -> x.refusal(false));
        Checks.dueThrow("refusal(true) at first", NoSuchElementException.class, () -> x.refusal(true));
        Checks.dueThrow("paint(0, 5)", IndexOutOfBoundsException.class, () -> x.paint(0, 5));
        Checks.dueThrow("hues(0)", ILLEGAL, () -> x.hues(0));
        Checks.dueThrow("refusal(false) after other exceptions", NoSuchElementException.class, () -> x.refusal(false));
        Checks.dueRefusal("back()", 8, 0, x, x::back);
        Checks.dueRefusal("border(1, 1)", 5, 1, x, () -> x.border(1, 1));
        Checks.dueRefusal("erase(1, 0)", 6, 0, x, () -> x.erase(1, 0));
        Checks.dueRefusal("paint(0, 4)", 10, 4, x, () -> x.paint(0, 4));
    }

    private static void promise30RefusalStays() {
        FlagHues x = Checks.withSizes(2, 2);
        x.save();
        Checks.dueRefusal("border(1, 1)", 5, 1, x, () -> x.border(1, 1));
        x.border(0, 1);
        Checks.due("a call that is not refused leaves it", 5, x.refusal(false));
        x.undo();
        Checks.due("undo leaves it", 5, x.refusal(false));
        x.restore();
        Checks.due("restore leaves it", 1, x.refusal(true));
        x.paint(1, 1);
        Checks.dueRefusal("paint(1, 0)", 2, 1, x, () -> x.paint(1, 0));
        x.back();
        Checks.due("the detail is of then", 1, x.refusal(true));
        Checks.type(x, "?");
        Checks.dueThrow("read()", ILLEGAL, x::read);
        Checks.due("an error leaves it", 2, x.refusal(false));
    }
}
