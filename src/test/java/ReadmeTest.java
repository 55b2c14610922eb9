/** The example of README.md, with the answers that it tells. */
public final class ReadmeTest {
    public static void main(String[] args) {
        NetMerge x = new NetMerge();
        due("load", x.load(feed(x, "nets keep 1; host ann 0 10; host bob 1 10; rule 1 allow 10 any;")), 2);
        due("size", x.size(9), 1);
        due("clash", x.clash(0), 10);
        due("settle", x.settle(), 1);
        due("format", x.format(1), 14);
        Check.due("README formattedByte", Check.lastFormatted(x), "bob 10 > 200@1");
        due("whyNot", x.whyNot(), 0);
        due("wave", x.wave(), 1);
        due("rule", x.rule(0, 2), 200);
        due("query", x.query(feed(x, "first old=10")), 1);
        due("open", x.open(), -3);
        due("wave", x.wave(), 0);
        due("open", x.open(), 2);
        due("undo", x.undo(), 3);
        due("back", x.back(), 1);
        due("the other query", x.query(feed(x, "many office=1 and not (clash=0 or reach<2)")), 0);
        Check.end("ReadmeTest");
    }

    private static void due(String call, int answer, int due) {
        Check.due("README " + call, answer, due);
    }

    private static int feed(NetMerge x, String text) {
        int[] words = new int[(text.length() + 19) / 20 * 5];
        for (int i = 0; i < words.length * 4; i++) {
            words[i / 4] = words[i / 4] << 8 | (i < text.length() ? text.charAt(i) : ' ');
        }
        for (int i = 0; i < words.length; i += 5) {
            x.feed(words[i], words[i + 1], words[i + 2], words[i + 3], words[i + 4]);
        }
        return text.length();
    }
}
