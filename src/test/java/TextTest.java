/** Promises 1 to 4: a new object, feed, load and errorPosition, with the input text of section 4. */
public final class TextTest {
    public static void main(String[] args) {
        newObject();
        feeding();
        loading();
        loadingIsAsked();
        head();
        hosts();
        rules();
        moves();
        limits();
        errorPositions();
        Check.end("TextTest");
    }

    private static void newObject() {
        NetMerge fresh = new NetMerge();
        Check.due("P1 a new object", Check.shown(fresh), Check.shown(Check.made("nets;")));
        Check.due("P1 all sizes", Check.shown(fresh), "0 0 0 0 1 3 200 250 0 0 0 ");
        Check.due("P1 nothing to undo", fresh.undo(), -1);
        Check.due("P1 no snapshot", fresh.restoreSnapshot(), false);
        Check.due("P1 errorPosition", fresh.errorPosition(), -1);
        Check.due("P1 formattedByte", fresh.formattedByte(0), -1);
        Check.illegal("P1 empty buffer", () -> fresh.load(1));
    }

    private static void feeding() {
        NetMerge x = new NetMerge();
        for (int calls = 1; calls <= 45; calls++) {
            Check.due("P2 feed " + calls, x.feed(0x20202020, 0x20202020, 0x20202020, 0x20202020, 0x20202020), 20 * calls);
        }
        Check.due("P2 feed beyond 900", x.feed(1, 2, 3, 4, 5), -1);
        Check.illegal("P2 the buffer has 900 bytes", () -> x.load(901));
        Check.due("P2 900 spaces", x.load(900), -11);
        Check.due("P2 end of them", x.errorPosition(), 900);
        Check.due("P2 empty again", x.feed(0, 0, 0, 0, 0), 20);
        NetMerge y = new NetMerge();
        y.feed(0x6e657473, 0x20706572, 0x20352070, 0x6f6f6c20, 0x37203930);
        y.feed(0x3b202020, 0, 0, 0, 0);
        Check.due("P2 the most significant byte first", y.load(22), 0);
        Check.due("P2 per", y.size(5), 5);
        Check.due("P2 pool", y.size(6) * 1000 + y.size(7), 7090);
        y.feed(0x6e657473, 0x3bff0000, 0, 0, 0);
        Check.due("P2 a byte above 127", y.load(6), -11);
        Check.due("P2 its position", y.errorPosition(), 5);
    }

    private static void loading() {
        NetMerge x = Check.made("nets keep 2 per 4 pool 100 110;host a 0 10;host bcd 1 10 pinned;"
                + "rule 1 deny any 10;rule 0 allow 250 any;move a 20 3;");
        Check.due("P3 what it reads", Check.shown(x),
                "2 2 1 0 2 4 100 110 0 1 0 | a 0 10 0 0 20 3 0| bcd 1 10 0 1 0 0 0/ 1 0 0 10 / 0 1 250 0 ");
        String before = Check.shown(x);
        x.addHost(0, 33);
        x.undo();
        x.addHost(0, 34);
        x.saveSnapshot();
        String changed = Check.shown(x);
        Check.due("P3 an error", Check.load(x, "nets; host q 0 0;"), -12);
        Check.due("P3 an error changes nothing", Check.shown(x), changed);
        Check.due("P3 an error keeps the undo history", x.undoCount(), 1);
        Check.illegal("P3 an error empties the buffer", () -> x.load(1));
        Check.due("P3 an error keeps the snapshot", x.restoreSnapshot(), true);
        x.undo();
        x.wave();
        x.open();
        Check.due("P3 another text", Check.load(x, "nets ; host z 1 7 ;"), 1);
        Check.due("P3 replaces everything", Check.shown(x), "1 0 0 0 1 3 200 250 0 0 0 | z 1 7 0 0 0 0 0");
        Check.due("P3 the undo history is discarded", x.undoCount(), 0);
        Check.due("P3 undo", x.undo(), -1);
        Check.due("P3 the snapshot is discarded", x.restoreSnapshot(), false);
        Check.due("P3 not the first text", before.equals(Check.shown(x)), false);
    }

    private static void loadingIsAsked() {
        NetMerge x = new NetMerge();
        Check.feed(x, "nets;zzzzzzzzzzzzzzz");
        Check.illegal("P3 negative length", () -> x.load(-1));
        Check.illegal("P3 least length", () -> x.load(Integer.MIN_VALUE));
        Check.illegal("P3 more than there is", () -> x.load(21));
        Check.illegal("P3 greatest length", () -> x.load(Integer.MAX_VALUE));
        Check.due("P3 a refused call keeps the buffer", x.load(5), 0);
        Check.illegal("P3 the buffer is empty, whatever was read of it", () -> x.load(1));
        Check.due("P3 length 0", x.load(0), -11);
        Check.due("P3 its position", x.errorPosition(), 0);
    }

    private static void head() {
        good("nets keep 0 per 1 pool 1 1;", "0 0 0 0 0 1 1 1 0 0 0 ");
        good("nets keep 3 per 9 pool 250 250;", "0 0 0 0 3 9 250 250 0 0 0 ");
        good("nets\n\nper2\npool 3 004;", "0 0 0 0 1 2 3 4 0 0 0 ");
        good("nets pool 0000000000000000000000001 250;", "0 0 0 0 1 3 1 250 0 0 0 ");
        good("  nets keep2 ;  ", "0 0 0 0 2 3 200 250 0 0 0 ");
        bad("", 1, 0);
        bad("   ", 1, 3);
        bad("net;", 1, 0);
        bad("netss;", 1, 0);
        bad(";", 1, 0);
        bad("nets", 1, 4);
        bad("nets  ", 1, 6);
        bad("nets keep;", 1, 9);
        bad("nets keep 4;", 2, 10);
        bad("nets keep 99999999999999999999;", 2, 10);
        bad("nets keep 4294967297;", 2, 10);
        bad("nets keep x;", 1, 10);
        bad("nets keep 1 keep 1;", 1, 12);
        bad("nets per 0;", 2, 9);
        bad("nets per 10;", 2, 9);
        bad("nets per 3 keep 1;", 1, 11);
        bad("nets pool 1 2 per 3;", 1, 14);
        bad("nets pool 0 5;", 2, 10);
        bad("nets pool 251 251;", 2, 10);
        bad("nets pool 5 251;", 2, 12);
        bad("nets pool 5 4;", 2, 12);
        bad("nets pool 5;", 1, 11);
        bad("nets, pool 5;", 1, 4);
        bad("nets\tkeep 1;", 1, 4);
        bad("nets (;", 1, 5);
        bad("nets =;", 1, 5);
        bad("Nets;", 1, 0);
        bad("nets 5;", 1, 5);
        bad("nets; ;", 1, 6);
        bad("nets; hosts a 0 1;", 1, 6);
        bad("nets; 7", 1, 6);
        bad("nets; nets;", 1, 6);
    }

    private static void hosts() {
        good("nets;host host 0 1;host any 1 1;", "2 0 0 0 1 3 200 250 0 1 0 | host 0 1 0 0 0 0 0| any 1 1 0 0 0 0 0");
        good("nets;host abcdefgh 1 250 pinned;", "1 0 0 0 1 3 200 250 0 0 0 | abcdefgh 1 250 0 1 0 0 0");
        bad("nets;host", 1, 9);
        bad("nets;host 5 0 1;", 1, 10);
        bad("nets;host abcdefghi 0 1;", 2, 10);
        bad("nets;host a 0 1;host a 1 2;", 3, 21);
        bad("nets;host a 2 1;", 2, 12);
        bad("nets;host a b 1;", 1, 12);
        bad("nets;host a 0 0;", 2, 14);
        bad("nets;host a 0 251;", 2, 14);
        bad("nets;host a 0 any;", 1, 14);
        bad("nets;host a 0 9;host b 0 9;", 3, 25);
        bad("nets;host a 0 9;host b 0 009 pinned;", 3, 25);
        bad("nets;host a 0 9 pin;", 1, 16);
        bad("nets;host a 0 9 pinned pinned;", 1, 23);
        bad("nets;host a 0 9", 1, 15);
        bad("nets;host a 0 9 host b 0 8;", 1, 16);
        bad("nets;host a!b 0 9;", 1, 11);
        bad("nets;host aB 0 9;", 1, 11);
    }

    private static void rules() {
        good("nets;rule 0 allow any any;rule 1 deny 1 250;", "0 2 0 0 1 3 200 250 0 0 0 / 0 1 0 0 / 1 0 1 250 ");
        bad("nets;rule", 1, 9);
        bad("nets;rule 2 allow any any;", 2, 10);
        bad("nets;rule any allow any any;", 1, 10);
        bad("nets;rule 0 any any;", 1, 12);
        bad("nets;rule 0 3 any;", 1, 12);
        bad("nets;rule 0 allow 0 any;", 2, 18);
        bad("nets;rule 0 allow 251 any;", 2, 18);
        bad("nets;rule 0 allow x any;", 1, 18);
        bad("nets;rule 0 deny any 0;", 2, 21);
        bad("nets;rule 0 deny any 300;", 2, 21);
        bad("nets;rule 0 deny any;", 1, 20);
        bad("nets;rule 0 deny any any any;", 1, 25);
    }

    private static void moves() {
        String two = "nets per 2;host a 0 5;host b 1 6 pinned;host c 0 7;host d 0 8;";
        good("nets;host a 0 5;move a 250 9;", "1 0 1 0 1 3 200 250 0 0 0 | a 0 5 0 0 250 9 0");
        good("nets;host a 0 5;move a 5 1;", "1 0 1 0 1 3 200 250 0 0 0 | a 0 5 0 0 5 1 0");
        bad("nets;move", 1, 9);
        bad("nets;move 5 6 1;", 1, 10);
        bad("nets;move a 6 1;host a 0 5;", 4, 10);
        bad("nets;host a 0 5;move abcdefghi 6 1;", 4, 21);
        bad(two + "move b 9 1;", 4, two.length() + 5);
        bad(two + "move a 9 1;move a 9 2;", 4, two.length() + 16);
        bad(two + "move a 0 1;", 2, two.length() + 7);
        bad(two + "move a 251 1;", 2, two.length() + 7);
        bad(two + "move a b 1;", 1, two.length() + 7);
        bad(two + "move a 9 0;", 2, two.length() + 9);
        bad(two + "move a 9 10;", 2, two.length() + 9);
        bad(two + "move a 9;", 1, two.length() + 8);
        bad(two + "move a 9 4;move c 9 4;move d 9 4;", 4, two.length() + 31);
        bad(two + "move a 9 4;move c 9 4;move d 9 10;", 2, two.length() + 31);
        good("nets per 1;host a 0 5;host c 0 7;move a 9 4;move c 9 5;",
                "2 0 2 0 1 1 200 250 0 0 0 | a 0 5 0 0 9 4 0| c 0 7 0 0 9 5 0");
    }

    private static void limits() {
        StringBuilder text = new StringBuilder("nets;");
        for (int i = 0; i < 40; i++) {
            text.append("host ").append((char) ('a' + i / 26)).append((char) ('a' + i % 26));
            text.append(i % 2).append(' ').append(1 + i).append(';');
        }
        NetMerge x = new NetMerge();
        Check.due("P3 40 hosts", Check.load(x, text.toString()), 40);
        Check.due("P3 the last name", x.name(39, 0) * 1000 + x.name(39, 1), 98110);
        bad(text + "host a0 99;", 3, text.length());
        bad(text + "hosts a0 99;", 1, text.length());
        bad(text + "host", 3, text.length());
        StringBuilder rules = new StringBuilder("nets;");
        for (int i = 0; i < 30; i++) {
            rules.append("rule0deny").append(i + 1).append(" any;");
        }
        Check.due("P3 30 rules", Check.load(x, rules.toString()), 0);
        Check.due("P3 their count", x.size(1), 30);
        bad(rules + "rule0deny any any;", 3, rules.length());
    }

    private static void errorPositions() {
        NetMerge x = new NetMerge();
        Check.load(x, "nets; host");
        Check.due("P4 of load", x.errorPosition(), 10);
        Check.illegal("P4 a call that reads nothing", () -> x.load(-1));
        Check.illegal("P4 a query that reads nothing", () -> x.query(1));
        Check.due("P4 such calls keep it", x.errorPosition(), 10);
        Check.query(x, "many host = x");
        Check.due("P4 of query", x.errorPosition(), 12);
        x.addHost(0, 1);
        x.undo();
        x.saveSnapshot();
        x.restoreSnapshot();
        Check.due("P4 nothing else changes it", x.errorPosition(), 12);
        Check.load(x, "nets;");
        Check.due("P4 NONE behind a good load", x.errorPosition(), -1);
        Check.query(x, "(");
        Check.due("P4 at the first token", x.errorPosition(), 0);
        Check.query(x, "many 1=1");
        Check.due("P4 NONE behind a good query", x.errorPosition(), -1);
    }

    private static void good(String text, String shown) {
        NetMerge x = new NetMerge();
        int hosts = Check.load(x, text);
        Check.due("P3 \"" + text + "\" has hosts", hosts >= 0, true);
        Check.due("P3 \"" + text + "\"", Check.shown(x), shown);
        Check.due("P3 the answer of \"" + text + "\"", hosts, x.size(0));
    }

    private static void bad(String text, int code, int position) {
        NetMerge x = new NetMerge();
        Check.due("P3 code of \"" + text + "\"", Check.load(x, text), -10 - code);
        Check.due("P4 position in \"" + text + "\"", x.errorPosition(), position);
        Check.due("P3 nothing is read of \"" + text + "\"", Check.shown(x), "0 0 0 0 1 3 200 250 0 0 0 ");
    }
}
