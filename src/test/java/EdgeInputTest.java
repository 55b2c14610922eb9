/** Promises 1 to 4 with section 4, sentence by sentence: the edges that the document names. */
public final class EdgeInputTest {
    private static final String EMPTY = "0 0 0 0 1 3 200 250 0 0 0 ";
    private static final String FULL_STATE = "nets keep 2 per 4 pool 100 110;host a 0 10;host b 1 10;host c 1 11 pinned;"
            + "rule 0 allow 10 any;rule 1 deny any 11;move a 20 1;move b 21 2;";

    public static void main(String[] args) {
        newObject();
        lastCall();
        feedOrder();
        feedCount();
        feedBeyond();
        loadLengths();
        loadReadsTheFirstBytes();
        loadReplacesEverything();
        loadErrorKeepsTheRest();
        loadAnswers();
        errorPosition();
        Check.end("EdgeInputTest");
    }

    /** P1: two nets without hosts and rules as by the text "nets;". */
    private static void newObject() {
        NetMerge x = new NetMerge();
        Check.due("P1 without hosts and rules", Check.shown(x), EMPTY);
        Check.due("P1 as by the text \"nets;\"", Check.shown(x), Check.shown(Check.made("nets;")));
        Check.due("P1 nothing can be undone", x.undoCount(), 0);
        Check.due("P1 NONE where nothing is undone", x.undo(), NetMerge.NONE);
        Check.due("P1 nobody holds a number", x.holder(0, 1) + x.holder(0, 250) + x.holder(1, 1) + x.holder(1, 250), -4);
        Check.due("P1 no rule decides", x.decides(0, 1, 250) + x.decides(1, 250, 1), -2);
        Check.due("P1 no plans in any wave", x.plans(1) + x.plans(9), 0);
        Check.missing("P1 no host", () -> x.host(0, 0));
        Check.missing("P1 no rule", () -> x.rule(0, 0));
        Check.missing("P1 no clash", () -> x.clash(0));
        Check.due("P1 the pool from 200", x.freeNumber(), 200);
        Check.due("P1 no error position", x.errorPosition(), NetMerge.NONE);
        Check.due("P1 no text of format", x.formattedByte(0), NetMerge.NONE);
        Check.due("P1 the buffer is empty", x.feed(0, 0, 0, 0, 0), 20);
        Check.due("P1 two nets: a number in one", x.addHost(0, 5), 0);
        Check.due("P1 two nets: and in the other", x.addHost(1, 5), 1);
        NetMerge y = new NetMerge();
        Check.due("P1 no snapshot", y.restoreSnapshot(), false);
        Check.due("P1 no wave to go back from", y.back(), -2);
        Check.due("P1 objects have nothing in common", y.size(0), 0);
    }

    /** "used for at most 512 calls": the 512th one is still answered. */
    private static void lastCall() {
        NetMerge x = new NetMerge();
        for (int call = 1; call <= 510; call += 3) {
            Check.due("call " + call, x.addHost(1, 7), 0);
            Check.due("call " + (call + 1), x.removeHost(0), 0);
            Check.due("call " + (call + 2), x.undoCount(), Math.min(10, (call + 2) / 3 * 2));
        }
        Check.due("call 511", x.undo(), 9);
        Check.due("call 512", x.host(0, 1), 7);
    }

    /** P2: "the four bytes of each parameter, the most significant byte first". */
    private static void feedOrder() {
        NetMerge x = new NetMerge();
        for (int place = 0; place < 20; place++) {
            byte[] bytes = "                    ".getBytes(java.nio.charset.StandardCharsets.ISO_8859_1);
            bytes[place] = '!';
            Check.due("P2 appends 20 bytes", Check.feedBytes(x, bytes), 20);
            Check.due("P2 one of them is no token", x.load(20), -11);
            Check.due("P2 byte " + place + " of the five parameters", x.errorPosition(), place);
        }
        x.feed(0x6e657473, 0x3b686f73, 0x74207a20, 0x30203235, 0x303b2020);
        Check.due("P2 the text \"nets;host z 0 250;\"", x.load(18), 1);
        Check.due("P2 what it says", Check.host(x, 0), "0 250 0 0 0 0 0");
        x.feed(-1, -1, -1, -1, -1);
        Check.due("P2 bytes 255", x.load(20), -11);
        Check.due("P2 bytes 255 are invalid from the first one on", x.errorPosition(), 0);
        x.feed(Integer.MIN_VALUE, Integer.MAX_VALUE, 0, 1, -2);
        Check.due("P2 a byte 128", x.load(1), -11);
        x.feed(0x20202080, 0, 0, 0, 0);
        Check.due("P2 a byte 128 as the fourth one", x.load(4), -11);
        Check.due("P2 its place", x.errorPosition(), 3);
        Check.feed(x, "many 1=1            ");
        x.feed(0x616e6420, 0x313d3120, 0x20202020, 0x20202020, 0x20202020);
        Check.due("P2 appended behind what there is", x.query(40), 1);
    }

    /** P2: "Returns the number of bytes in the buffer". */
    private static void feedCount() {
        NetMerge x = new NetMerge();
        for (int call = 1; call <= 45; call++) {
            Check.due("P2 bytes behind call " + call, x.feed(0x20202020, 0, -1, 7, 0x41414141), 20 * call);
        }
        Check.due("P2 a 46th call", x.feed(0, 0, 0, 0, 0), NetMerge.NONE);
        Check.due("P2 a 47th call", x.feed(0, 0, 0, 0, 0), NetMerge.NONE);
        x.load(0);
        Check.due("P2 counted anew behind load", x.feed(0, 0, 0, 0, 0), 20);
        Check.due("P2 and on", x.feed(0, 0, 0, 0, 0), 40);
        x.query(1);
        Check.due("P2 counted anew behind query", x.feed(0, 0, 0, 0, 0), 20);
        x.addHost(0, 1);
        x.undo();
        x.saveSnapshot();
        x.restoreSnapshot();
        Check.due("P2 no other call empties it", x.feed(0, 0, 0, 0, 0), 40);
    }

    /** P2: "NONE if it would exceed 900, and then nothing is appended". */
    private static void feedBeyond() {
        StringBuilder text = new StringBuilder("nets;host a 0 7;");
        while (text.length() < 899) {
            text.append(text.length() % 3 == 0 ? '\n' : ' ');
        }
        NetMerge x = new NetMerge();
        Check.feed(x, text + "!");
        Check.refused("P2 beyond 900", x, NetMerge.NONE, () -> x.feed(0x3b3b3b3b, 0x3b3b3b3b, 0, 0, 0));
        Check.illegal("P2 nothing is appended", () -> x.load(901));
        Check.illegal("P2 nothing of the 20 bytes", () -> x.load(920));
        Check.due("P2 the last of 900 bytes stays", x.load(900), -11);
        Check.due("P2 its place", x.errorPosition(), 899);
        Check.feed(x, text + " ");
        x.feed(0x21212121, 0x21212121, 0x21212121, 0x21212121, 0x21212121);
        Check.due("P2 the first bytes stay, too", x.load(900), 1);
    }

    /** P3: "Throws if length is negative or greater than the number of bytes (nothing changes)". */
    private static void loadLengths() {
        NetMerge x = Check.made(FULL_STATE);
        Check.illegal("P3 an empty buffer has no byte", () -> x.load(1));
        Check.due("P3 length 0 of an empty buffer: it ends too early", x.load(0), -11);
        Check.due("P3 length 0: the position is the length", x.errorPosition(), 0);
        x.addRule(0, true, 1, 1);
        x.format(0);
        Check.query(x, "many 1 ? 1");
        Check.feed(x, "nets;               nets;host q 1 3;    ");
        int[] wrong = {-1, 41, 900, 901, Integer.MIN_VALUE, Integer.MAX_VALUE};
        for (int length : wrong) {
            Check.refused("P3 length " + length, x, IllegalArgumentException.class, () -> x.load(length));
        }
        Check.due("P3 such calls keep the buffer", x.feed(0x20202020, 0, 0, 0, 0), 60);
        Check.due("P3 as it was", x.load(44), -11);
        Check.due("P3 byte for byte", x.errorPosition(), 20);
        Check.feed(x, "nets;host q 1 3;    ");
        Check.illegal("P3 one more than there is", () -> x.load(21));
        Check.due("P3 as many as there are", x.load(20), 1);
    }

    /** P3: "Reads the first bytes of the buffer ... The buffer is empty afterwards, also after an error". */
    private static void loadReadsTheFirstBytes() {
        String text = "nets;host a 0 10;host b 1 250;";
        int[] wants = {0, -11, 4, -11, 5, 0, 6, -11, 9, -11, 13, -11, 15, -11, 16, -11, 17, 1, 29, -11, 30, 2, 31, 2};
        int[] places = {0, 4, -1, 5, 9, 13, 15, 16, -1, 29, -1, -1};
        for (int i = 0; i < places.length; i++) {
            NetMerge x = new NetMerge();
            Check.feed(x, text);
            Check.due("P3 the first " + wants[2 * i] + " bytes", x.load(wants[2 * i]), wants[2 * i + 1]);
            Check.due("P4 of the first " + wants[2 * i] + " bytes", x.errorPosition(), places[i]);
            Check.illegal("P3 empty behind " + wants[2 * i] + " bytes", () -> x.load(1));
            Check.due("P3 fed from the start behind " + wants[2 * i] + " bytes", x.feed(0, 0, 0, 0, 0), 20);
        }
        NetMerge x = new NetMerge();
        Check.feed(x, "nets;!");
        Check.due("P3 bytes behind the length do not count", x.load(5), 0);
        Check.feed(x, "nets;host a 0 1");
        x.load(15);
        Check.feed(x, "0;");
        Check.due("P3 nor are they read later", x.load(2), -11);
        Check.due("P3 that text starts anew", x.errorPosition(), 0);
    }

    /** P3: "replaces everything (no wave was done); the undo history and the snapshot are discarded". */
    private static void loadReplacesEverything() {
        NetMerge x = Check.made(FULL_STATE);
        Check.waves(x, 5);
        Check.due("P3 ahead of it", x.open(), 3);
        x.setKeep(3);
        x.saveSnapshot();
        Check.due("P3 ahead of it there is something to undo", x.undoCount(), 7);
        Check.due("P3 no hosts", Check.load(x, "nets;"), 0);
        Check.due("P3 replaces everything", Check.shown(x), EMPTY);
        Check.due("P3 the undo history is discarded", x.undoCount(), 0);
        Check.due("P3 so nothing can be undone", x.undo(), -1);
        Check.due("P3 the snapshot is discarded", x.restoreSnapshot(), false);
        Check.due("P3 no wave was done", x.back(), -2);
        Check.due("P3 the bridge is closed", x.close(), -2);
        NetMerge y = Check.made("nets;host a 0 5;move a 6 1;");
        y.wave();
        Check.load(y, "nets;host b 0 5;");
        y.wave();
        y.back();
        Check.due("P3 moves of earlier hosts are gone", Check.host(y, 0), "0 5 0 0 0 0 0");
        Check.due("P3 so are their names", (char) y.name(0, 0), 'b');
        Check.due("P3 the operations behind it are recorded", y.undoCount(), 2);
    }

    /** P3: "-10 minus the error code if the text has an error (then only the buffer and the error position change)". */
    private static void loadErrorKeepsTheRest() {
        String head = "nets keep 0 per 9 pool 1 2;rule 1 deny any any;";
        String[] texts = {"host q 0 9", "host q 0 0;", "host q 0 9;host q 1 9;", "host q 0 9;move r 1 1;"};
        int[] places = {57, 56, 63, 63};
        for (int i = 0; i < texts.length; i++) {
            NetMerge x = Check.made(FULL_STATE);
            x.wave();
            x.saveSnapshot();
            String saved = Check.shown(x);
            x.removeHost(2);
            x.format(0);
            String before = Check.shown(x);
            Check.due("P3 code " + (i + 1), Check.load(x, head + texts[i]), -11 - i);
            Check.due("P3 code " + (i + 1) + ": the error position changes", x.errorPosition(), places[i]);
            Check.due("P3 code " + (i + 1) + ": the buffer changes", x.feed(0, 0, 0, 0, 0), 20);
            Check.due("P3 code " + (i + 1) + ": nothing else", Check.shown(x), before);
            Check.due("P3 code " + (i + 1) + ": the text of format stays", Check.lastFormatted(x), "a 20+10");
            x.query(0);
            String asked = Check.asks(x);
            Check.load(x, head + texts[i]);
            Check.due("P3 code " + (i + 1) + ": nor what is asked", Check.asks(x), asked);
            x.unplan(1);
            Check.load(x, head + texts[i]);
            Check.due("P3 code " + (i + 1) + ": nor what is settled", x.settle(), 1);
            Check.due("P3 code " + (i + 1) + ": by the pool that there is", x.host(1, 4), 100);
            x.undo();
            x.undo();
            Check.due("P3 code " + (i + 1) + ": the undo history stays", x.undoCount(), 2);
            Check.due("P3 code " + (i + 1) + ": and can be used", x.undo(), 1);
            Check.due("P3 code " + (i + 1) + ": to the state ahead", Check.shown(x), saved);
            x.addHost(0, 99);
            Check.due("P3 code " + (i + 1) + ": the snapshot stays", x.restoreSnapshot(), true);
            Check.due("P3 code " + (i + 1) + ": as it was", Check.shown(x), saved);
        }
    }

    /** P3: "Returns the number of hosts". */
    private static void loadAnswers() {
        for (int count = 0; count <= 40; count++) {
            NetMerge x = new NetMerge();
            Check.due("P3 a text of " + count + " hosts", Check.load(x, hosts(count)), count);
            Check.due("P5 a text of " + count + " hosts", x.size(0), count);
        }
        NetMerge x = new NetMerge();
        Check.due("P3 a text of 41 hosts", Check.load(x, hosts(41)), -13);
        Check.due("P3 none of them is there", x.size(0), 0);
        StringBuilder longest = new StringBuilder(hosts(40));
        while (longest.length() < 900) {
            longest.insert(longest.length() - 1, ' ');
        }
        Check.due("P3 900 bytes", Check.load(x, longest.toString()), 40);
        Check.due("P3 up to the last byte", Check.load(x, longest.substring(0, 899)  + "x"), -11);
        Check.due("P4 up to the last byte", x.errorPosition(), 899);
    }

    private static String hosts(int count) {
        StringBuilder text = new StringBuilder("nets;");
        for (int i = 0; i < count; i++) {
            text.append("host ").append((char) ('a' + i / 26)).append((char) ('a' + i % 26));
            text.append(i % 2).append(' ').append(250 - i).append(';');
        }
        return text.toString();
    }

    /** P4: "of the most recent call of load or query that read the buffer; NONE if ... no error, or ... no such call". */
    private static void errorPosition() {
        NetMerge x = new NetMerge();
        Check.due("P4 there was no such call", x.errorPosition(), NetMerge.NONE);
        Check.illegal("P4 a load that reads nothing", () -> x.load(1));
        Check.illegal("P4 a query that reads nothing", () -> x.query(1));
        Check.due("P4 there was still no such call", x.errorPosition(), NetMerge.NONE);
        Check.load(x, "nets ?");
        Check.due("P4 of load", x.errorPosition(), 5);
        Check.due("P4 it stays", x.errorPosition(), 5);
        Check.feed(x, "nets;");
        Check.due("P4 feed keeps it", x.errorPosition(), 5);
        Check.illegal("P4 a negative length", () -> x.load(-1));
        Check.illegal("P4 a length of 201", () -> x.query(201));
        Check.illegal("P4 a length beyond the buffer", () -> x.query(21));
        Check.due("P4 calls that throw keep it", x.errorPosition(), 5);
        Check.due("P4 a good load", x.load(5), 0);
        Check.due("P4 a good load has none", x.errorPosition(), NetMerge.NONE);
        Check.query(x, "first 1=1 or");
        Check.due("P4 of query, at its end", x.errorPosition(), 12);
        Check.load(x, "nets;;");
        Check.due("P4 the most recent call counts", x.errorPosition(), 5);
        Check.query(x, "many 1=1");
        Check.due("P4 a good query has none", x.errorPosition(), NetMerge.NONE);
        Check.query(x, ";");
        Check.due("P4 the least position", x.errorPosition(), 0);
        x.load(0);
        Check.due("P4 of an empty text", x.errorPosition(), 0);
        x.addHost(0, 1);
        x.wave();
        x.back();
        x.undo();
        x.format(0);
        x.saveSnapshot();
        x.restoreSnapshot();
        Check.due("P4 no other call changes it", x.errorPosition(), 0);
        for (int i = 0; i < 45; i++) {
            x.feed(0x20202020, 0x0a0a0a0a, 0x20202020, 0x0a200a20, 0x20202020);
        }
        x.load(900);
        Check.due("P4 the greatest position", x.errorPosition(), 900);
    }
}
