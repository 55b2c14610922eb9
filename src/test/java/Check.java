import java.nio.charset.StandardCharsets;
import java.util.NoSuchElementException;

/** What the tests share: feeding of texts, and a count of the answers that are not as due. */
final class Check {
    interface Call {
        Object answer();
    }

    private static int wrong = 0;
    private static int asked = 0;

    private Check() {
    }

    static void due(String what, Object got, Object want) {
        asked++;
        if (!want.equals(got)) {
            wrong++;
            if (wrong <= 50) {
                System.out.println(what + ": answered " + got + ", due is " + want);
            }
        }
    }

    static void missing(String what, Call call) {
        due(what, thrownBy(call), NoSuchElementException.class);
    }

    static void illegal(String what, Call call) {
        due(what, thrownBy(call), IllegalArgumentException.class);
    }

    private static Object thrownBy(Call call) {
        try {
            return call.answer();
        } catch (RuntimeException e) {
            return e.getClass();
        }
    }

    static void end(String test) {
        System.out.println(test + ": " + asked + " answers, " + wrong + " not as due");
        if (wrong != 0) {
            System.exit(1);
        }
    }

    /** Feeds a text, filled up with spaces to whole calls; answers its own length. */
    static int feed(NetMerge x, String text) {
        byte[] bytes = text.getBytes(StandardCharsets.ISO_8859_1);
        for (int at = 0; at < bytes.length; at += 20) {
            x.feed(word(bytes, at), word(bytes, at + 4), word(bytes, at + 8), word(bytes, at + 12), word(bytes, at + 16));
        }
        return bytes.length;
    }

    private static int word(byte[] bytes, int at) {
        int word = 0;
        for (int i = at; i < at + 4; i++) {
            word = word << 8 | (i < bytes.length ? bytes[i] & 255 : ' ');
        }
        return word;
    }

    static int load(NetMerge x, String text) {
        return x.load(feed(x, text));
    }

    static int query(NetMerge x, String text) {
        return x.query(feed(x, text));
    }

    static NetMerge made(String text) {
        NetMerge x = new NetMerge();
        int hosts = load(x, text);
        if (hosts < 0) {
            due("load of \"" + text + "\"", hosts, "no error");
        }
        return x;
    }

    static String formatted(NetMerge x, int host) {
        x.format(host);
        return lastFormatted(x);
    }

    static String lastFormatted(NetMerge x) {
        StringBuilder text = new StringBuilder();
        for (int i = 0; i < 100 && x.formattedByte(i) != NetMerge.NONE; i++) {
            text.append((char) x.formattedByte(i));
        }
        return text.toString();
    }

    /** Bytes as four to an int, for single calls of feed. */
    static int feedBytes(NetMerge x, byte[] twenty) {
        return x.feed(word(twenty, 0), word(twenty, 4), word(twenty, 8), word(twenty, 12), word(twenty, 16));
    }

    /** A call that is refused by an answer or by the class of an exception, and changes nothing. */
    static void refused(String what, NetMerge x, Object want, Call call) {
        String before = stands(x);
        due(what, thrownBy(call), want);
        due(what + ": nothing changes", stands(x), before);
    }

    /** Like refused, with fewer calls, for objects with as many hosts as there may be. */
    static void refusedBriefly(String what, NetMerge x, Object want, Call call) {
        String before = brief(x);
        due(what, thrownBy(call), want);
        due(what + ": nothing changes", brief(x), before);
    }

    /** All that the face shows without a change, but for the buffer and the snapshot. */
    static String stands(NetMerge x) {
        return shown(x) + "undo " + x.undoCount() + " error " + x.errorPosition() + " text " + lastFormatted(x);
    }

    /** What can be asked of an object besides its plain numbers; calls that look ahead come last. */
    static String asks(NetMerge x) {
        StringBuilder all = new StringBuilder();
        all.append(x.movedShare()).append(' ').append(x.meanReach()).append(' ').append(x.freeNumber());
        for (int host = 0; host < x.size(0); host++) {
            all.append(' ').append(x.format(host)).append('[').append(lastFormatted(x)).append("] ").append(x.reach(host));
            all.append(' ').append(x.holder(x.host(host, 0), x.host(host, 1)));
        }
        for (int index = 0; index < x.size(9); index++) {
            all.append(" clash ").append(x.clash(index));
        }
        for (int wave = 1; wave <= 9; wave++) {
            all.append(' ').append(x.plans(wave));
        }
        all.append(" query ").append(query(x, "many clash=1 or old>0")).append(' ').append(query(x, "first reach>0"));
        all.append(" ahead ").append(x.rewrites()).append(' ').append(x.whyNot()).append(' ').append(x.conflict());
        all.append(' ').append(x.openIn());
        for (int waves = 0; waves <= 9; waves++) {
            all.append(' ').append(x.clashesIn(waves));
        }
        return all.toString();
    }

    static String brief(NetMerge x) {
        StringBuilder all = new StringBuilder();
        for (int what = 0; what <= 10; what++) {
            all.append(x.size(what)).append(' ');
        }
        all.append(x.undoCount()).append(' ').append(x.errorPosition()).append(' ').append(x.formattedByte(0));
        all.append(' ').append(x.freeNumber()).append(' ').append(x.movedShare()).append(' ').append(x.meanReach());
        return all.toString();
    }

    /** The numbers of a host, as host answers them: office number kept pinned planned wave moved. */
    static String host(NetMerge x, int host) {
        StringBuilder all = new StringBuilder();
        for (int what = 0; what <= 6; what++) {
            all.append(what == 0 ? "" : " ").append(x.host(host, what));
        }
        return all.toString();
    }

    /** The sides of all rules. */
    static String sides(NetMerge x) {
        StringBuilder all = new StringBuilder();
        for (int rule = 0; rule < x.size(1); rule++) {
            all.append(rule == 0 ? "" : " ").append(x.rule(rule, 2)).append(' ').append(x.rule(rule, 3));
        }
        return all.toString();
    }

    static void waves(NetMerge x, int count) {
        for (int done = 0; done < count; done++) {
            int moves = x.wave();
            if (moves < 0) {
                due("wave " + (done + 1) + " of " + count, moves, "not refused");
            }
        }
    }

    /** All that undoing restores, as far as the face shows it. */
    static String shown(NetMerge x) {
        StringBuilder all = new StringBuilder();
        for (int what = 0; what <= 10; what++) {
            all.append(x.size(what)).append(' ');
        }
        for (int host = 0; host < x.size(0); host++) {
            all.append("| ");
            for (int i = 0; i < 100 && x.name(host, i) != NetMerge.NONE; i++) {
                all.append((char) x.name(host, i));
            }
            for (int what = 0; what <= 6; what++) {
                all.append(' ').append(x.host(host, what));
            }
        }
        for (int rule = 0; rule < x.size(1); rule++) {
            all.append("/ ");
            for (int what = 0; what <= 3; what++) {
                all.append(x.rule(rule, what)).append(' ');
            }
        }
        return all.toString();
    }
}
