/** Promise 42: queries. */
public final class QueryTest {
    private static NetMerge x;

    public static void main(String[] args) {
        x = Check.made("nets keep 2;host a 0 10;host b 1 10;host c 1 20;host d 0 30 pinned;host e 0 50;"
                + "rule 0 allow 10 any;rule 0 allow any 30;rule 1 allow any any;move c 40 1;move a 60 3;move b 70 3;");
        x.wave();
        properties();
        comparisons();
        connectives();
        nesting();
        errors();
        lengths();
        noHosts();
        manyHosts();
        Check.end("QueryTest");
    }

    private static void properties() {
        row("host", 0, 1, 2, 3, 4);
        row("office", 0, 1, 1, 0, 0);
        row("number", 10, 10, 40, 30, 50);
        row("old", 0, 0, 20, 0, 0);
        row("pinned", 0, 0, 0, 1, 0);
        row("planned", 60, 70, 0, 0, 0);
        row("wave", 3, 3, 0, 0, 0);
        row("clash", 1, 1, 0, 0, 0);
        row("reach", 2, 1, 1, 0, 1);
        x.addHost(0, 20);
        row("clash", 1, 1, 1, 0, 0, 1);
        x.undo();
        String before = Check.shown(x);
        int count = x.undoCount();
        asked("many reach > 0", 4);
        Check.due("P42 a query changes nothing", Check.shown(x), before);
        Check.due("P42 a query is no operation", x.undoCount(), count);
    }

    /** What a property is for each host. */
    private static void row(String property, int... values) {
        for (int host = 0; host < values.length; host++) {
            asked("many host = " + host + " and " + property + " = " + values[host], 1);
            asked("first host = " + host + " and " + values[host] + "=" + property, host);
        }
    }

    private static void comparisons() {
        asked("many number < 30", 2);
        asked("many number = 30", 1);
        asked("many number > 30", 2);
        asked("many 30 < number", 2);
        asked("many 30 > number", 2);
        asked("first number > 30", 2);
        asked("first number > 50", -1);
        asked("many number > 50", 0);
        asked("many 1 = 1", 5);
        asked("many 1 < 1", 0);
        asked("many 1 > 1", 0);
        asked("first 0 < 9999", 0);
        asked("many 00000000000009999 = 9999", 5);
        asked("many host = office", 2);
        asked("many planned > number", 2);
        asked("first old < planned", 0);
        asked("many old > wave", 1);
        asked("many reach = reach", 5);
        asked("many host < reach", 1);
    }

    private static void connectives() {
        asked("many number = 10 and office = 0 or office = 1 and number = 40", 2);
        asked("many office = 0 or office = 1 and number = 10", 4);
        asked("many (office = 0 or office = 1) and number = 10", 2);
        asked("many number = 10 or number = 30 or number = 50", 4);
        asked("many office = 0 and number > 10 and number < 50", 1);
        asked("many number = 30 or number = 10 and office = 1 or number = 50 and office = 1", 2);
        asked("many not office = 0", 2);
        asked("many not office = 0 and number = 10", 1);
        asked("many not (office = 0 and number = 10)", 4);
        asked("many not office = 0 or number = 10", 3);
        asked("many not not office = 0", 3);
        asked("many 1 = 2 or not 1 = 2", 5);
        asked("first not number = 10", 2);
        asked("first not 1=1", -1);
        asked("many(number=10)and(office=1)", 1);
        asked("many\n(1=1)", 5);
        asked("many ((number = 10) or ((number = 30)))", 3);
    }

    private static void nesting() {
        asked("many not not not not not not 1=1", 5);
        wrong("many not not not not not not not 1=1", 3, 29);
        asked("many ((((((1=1))))))", 5);
        wrong("many (((((((1=1)))))))", 3, 11);
        asked("many (not(not(not 1=2)))", 5);
        wrong("many (not(not(not(1=2))))", 3, 17);
        wrong("many (not(not(not not 1=2)))", 3, 18);
        asked("many (((((not 1=2) and not 1=2))))", 5);
        asked("many not 1=2 and not 1=2 and not 1=2 and not 1=2 and not 1=2 and not 1=2 and not 1=2", 5);
        asked("many not not not(not not 1=2) and not not(not not not 1=2)", 5);
        asked("many (1=1) and (1=1) and (1=1) and (1=1) and (1=1) and (1=1) and ((((((1=1))))))", 5);
        wrong("many (1=1) or (((((((1=1)))))))", 3, 20);
        wrong("many ((((((1=1 (", 1, 15);
    }

    private static void errors() {
        wrong("", 1, 0);
        wrong("  ", 1, 2);
        wrong("all 1=1", 1, 0);
        wrong("many", 1, 4);
        wrong("many first 1=1", 1, 5);
        wrong("many 1", 1, 6);
        wrong("many 1=", 1, 7);
        wrong("many =1", 1, 5);
        wrong("many 1==1", 1, 7);
        wrong("many 1<=1", 1, 7);
        wrong("many 1=1;", 1, 8);
        wrong("many 1=1 1", 1, 9);
        wrong("many 1=1)", 1, 8);
        wrong("many (1=1", 1, 9);
        wrong("many (1=1;", 1, 9);
        wrong("many ()", 1, 6);
        wrong("many (1)=1", 1, 7);
        wrong("many 1=1 and", 1, 12);
        wrong("many 1=1 or or 1=1", 1, 12);
        wrong("many 1=1 not 1=1", 1, 9);
        wrong("many 1=not 1", 1, 7);
        wrong("many and 1=1", 1, 5);
        wrong("many not", 1, 8);
        wrong("many hosts=1", 1, 5);
        wrong("many name=1", 1, 5);
        wrong("many any=1", 1, 5);
        wrong("many 1=1 xor 1=1", 1, 9);
        wrong("many 1=10000", 2, 7);
        wrong("many 10000=x", 2, 5);
        wrong("many 99999999999999999999=1", 2, 5);
        wrong("many 4294967296=0", 2, 5);
        wrong("many 1!1", 1, 6);
        wrong("many 1=-1", 1, 7);
        wrong("many\t1=1", 1, 4);
        wrong("Many 1=1", 1, 0);
        wrong("many 1=1 ?", 1, 9);
        wrong("many 1=x and 10000=1", 1, 7);
    }

    private static void lengths() {
        StringBuilder text = new StringBuilder("many 1=1");
        while (text.length() < 200) {
            text.append(' ');
        }
        asked(text.toString(), 5);
        Check.feed(x, text + "                    ");
        Check.illegal("P42 201 bytes", () -> x.query(201));
        Check.illegal("P42 -1 bytes", () -> x.query(-1));
        Check.due("P42 a refused call keeps the buffer", x.query(8), 5);
        Check.illegal("P42 the buffer is empty, whatever was read of it", () -> x.query(1));
        Check.feed(x, "many (");
        Check.illegal("P42 more than there is", () -> x.query(21));
        x.query(6);
        Check.illegal("P42 empty after an error, too", () -> x.query(1));
        StringBuilder longest = new StringBuilder("many 1=1");
        while (longest.length() + 7 <= 200) {
            longest.append("and 1=1");
        }
        asked(longest.toString(), 5);
        StringBuilder closest = new StringBuilder("many1=1");
        while (closest.length() + 5 <= 200) {
            closest.append("or1=1");
        }
        asked(closest.toString(), 5);
        asked(closest.toString().replace('=', '<'), 0);
        StringBuilder ors = new StringBuilder("first 1=2");
        while (ors.length() + 14 <= 200) {
            ors.append("or 1=2and 1=1 ");
        }
        asked(ors.toString(), -1);
        asked(ors + "or 1=1", 0);
    }

    private static void noHosts() {
        NetMerge none = new NetMerge();
        Check.due("P42 many of none", Check.query(none, "many 1=1"), 0);
        Check.due("P42 first of none", Check.query(none, "first not 1=2"), -1);
        Check.due("P42 an error without hosts", Check.query(none, "first not 1"), -1000000001);
    }

    private static void manyHosts() {
        NetMerge full = new NetMerge();
        for (int i = 0; i < 40; i++) {
            full.addHost(0, 100 + i);
        }
        full.addRule(0, true, 0, 0);
        Check.due("P42 many of 40", Check.query(full, "many 1=1"), 40);
        Check.due("P42 not of 40", Check.query(full, "many not host=39"), 39);
        Check.due("P42 the last of 40", Check.query(full, "first number=139"), 39);
        Check.due("P42 the host 32", Check.query(full, "first host > 31"), 32);
        Check.due("P42 what all reach", Check.query(full, "many reach=39"), 40);
        full.removeRule(0);
        Check.due("P42 what they reach then", Check.query(full, "many reach=39"), 0);
    }

    private static void asked(String text, int want) {
        Check.due("P42 \"" + text + "\"", Check.query(x, text), want);
        Check.due("P4 behind \"" + text + "\"", x.errorPosition(), -1);
    }

    private static void wrong(String text, int code, int position) {
        Check.due("P42 code of \"" + text + "\"", Check.query(x, text), -1000000000 - code);
        Check.due("P4 position in \"" + text + "\"", x.errorPosition(), position);
    }
}
