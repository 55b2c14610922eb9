/** Promises 36 and 37: the text of a host. */
public final class FormatTest {
    public static void main(String[] args) {
        texts();
        lastText();
        Check.end("FormatTest");
    }

    private static void texts() {
        NetMerge x = Check.made("nets keep 3;host a 0 1;host abcdefgh 1 250;host c 0 10;host d 0 109 pinned;host e 0 200;"
                + "move c 99 1;move e 100 1;move a 2 9;");
        formatted(x, 0, "a 1 > 2@9");
        formatted(x, 1, "abcdefgh 250");
        formatted(x, 2, "c 10 > 99@1");
        formatted(x, 3, "d 109!");
        x.wave();
        formatted(x, 2, "c 99+10");
        formatted(x, 4, "e 100+200");
        x.plan(4, 205, 5);
        formatted(x, 4, "e 100+200 > 205@5");
        x.setPinned(4, true);
        formatted(x, 4, "e 100+200!");
        x.addHost(1, 7);
        formatted(x, 5, " 7");
        x.wave();
        x.wave();
        x.wave();
        formatted(x, 2, "c 99");
        NetMerge y = Check.made("nets;host abcdefgh 1 222;move abcdefgh 222 1;");
        y.wave();
        y.plan(0, 222, 3);
        formatted(y, 0, "abcdefgh 222+222 > 222@3");
        Check.missing("P36 host 6", () -> x.format(6));
        Check.missing("P36 host -1", () -> x.format(-1));
    }

    private static void formatted(NetMerge x, int host, String want) {
        Check.due("P36 length of \"" + want + "\"", x.format(host), want.length());
        Check.due("P37 \"" + want + "\"", Check.lastFormatted(x), want);
        Check.due("P37 behind \"" + want + "\"", x.formattedByte(want.length()), -1);
    }

    private static void lastText() {
        NetMerge x = Check.made("nets;host a 0 10;");
        Check.due("P37 no call yet", x.formattedByte(0), -1);
        Check.missing("P36 a call that throws", () -> x.format(1));
        Check.due("P37 still no text", x.formattedByte(0), -1);
        x.saveSnapshot();
        x.format(0);
        x.plan(0, 20, 1);
        Check.due("P37 as it was then", Check.lastFormatted(x), "a 10");
        x.undo();
        x.removeHost(0);
        Check.due("P37 behind removeHost", Check.lastFormatted(x), "a 10");
        x.restoreSnapshot();
        Check.due("P37 behind restoreSnapshot", Check.lastFormatted(x), "a 10");
        Check.missing("P36 another call that throws", () -> x.format(7));
        Check.due("P37 behind a call that throws", Check.lastFormatted(x), "a 10");
        Check.load(x, "nets;host bcd 1 5;");
        Check.due("P37 behind load", Check.lastFormatted(x), "a 10");
        x.saveSnapshot();
        x.format(0);
        Check.due("P37 the latest call", Check.lastFormatted(x), "bcd 5");
        x.setPinned(0, true);
        x.format(0);
        x.undo();
        Check.due("P37 behind undo", Check.lastFormatted(x), "bcd 5!");
        x.addHost(0, 9);
        x.format(1);
        Check.due("P37 a shorter one", Check.lastFormatted(x), " 9");
        Check.due("P37 nothing of the longer one", x.formattedByte(2), -1);
        Check.due("P37 -1", x.formattedByte(-1), -1);
        Check.due("P37 least", x.formattedByte(Integer.MIN_VALUE), -1);
        Check.due("P37 greatest", x.formattedByte(Integer.MAX_VALUE), -1);
    }
}
