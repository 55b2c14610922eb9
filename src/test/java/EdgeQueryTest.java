/** Promise 42 with section 5, sentence by sentence: the edges that the document names. */
public final class EdgeQueryTest {
    public static void main(String[] args) {
        lengths();
        theFirstBytes();
        answers();
        everyByte();
        everyProperty();
        valuesOfProperties();
        reachAsItIs();
        clashOfEitherNumber();
        numbers();
        comparisons();
        bindings();
        sixOpenAtTheSameTime();
        openUntilTheEndOfItsFactor();
        theTextEndsTooEarly();
        everyLetterOfAKeyword();
        wrongTokens();
        firstErrors();
        changesNothing();
        Check.end("EdgeQueryTest");
    }

    private static NetMerge five() {
        return Check.made("nets;host a 0 10;host b 1 10;host c 1 20;host d 0 30 pinned;host e 0 50;");
    }

    /** P42: "if length is negative, greater than 200, or greater than the number of bytes in the buffer (nothing changes)". */
    private static void lengths() {
        NetMerge x = five();
        Check.illegal("P42 an empty buffer has no byte", () -> x.query(1));
        Check.due("P42 length 0 of an empty buffer", x.query(0), NetMerge.HIDDEN - 1);
        Check.due("P4 length 0", x.errorPosition(), 0);
        x.addHost(0, 60);
        x.format(0);
        Check.query(x, "many ?");
        Check.feed(x, "many 1=1            first number=30     ");
        for (int length : new int[] {-1, 41, 42, 200, 201, 900, Integer.MIN_VALUE, Integer.MAX_VALUE}) {
            Check.refused("P42 length " + length, x, IllegalArgumentException.class, () -> x.query(length));
        }
        Check.due("P42 the buffer does not change", x.feed(0x20202020, 0x20202020, 0x20202020, 0x20202020, 0x20202020), 60);
        Check.due("P42 nor its bytes", x.query(60), NetMerge.HIDDEN - 1);
        Check.due("P4 the second text is one too many", x.errorPosition(), 20);
        StringBuilder text = new StringBuilder("many 1=1");
        while (text.length() < 199) {
            text.append(' ');
        }
        Check.feed(x, text + " " + text);
        Check.refused("P42 201 of 400", x, IllegalArgumentException.class, () -> x.query(201));
        Check.due("P42 200 of 400", x.query(200), 6);
        Check.feed(x, text + "?");
        Check.due("P42 the 200th byte counts", x.query(200), NetMerge.HIDDEN - 1);
        Check.due("P4 the 200th byte", x.errorPosition(), 199);
        Check.feed(x, text + "?");
        Check.due("P42 199 bytes", x.query(199), 6);
    }

    /** P42: "Reads the first bytes of the buffer ... The buffer is empty afterwards, also after an error." */
    private static void theFirstBytes() {
        String text = "many number=10 or 1=1";
        int[] lengths = {4, 11, 12, 13, 14, 17, 20, 21};
        int[] dues = {-1000000001, -1000000001, -1000000001, 0, 2, -1000000001, -1000000001, 5};
        int[] places = {4, 11, 12, -1, -1, 17, 20, -1};
        for (int i = 0; i < lengths.length; i++) {
            NetMerge x = five();
            Check.feed(x, text);
            Check.due("P42 the first " + lengths[i] + " bytes", x.query(lengths[i]), dues[i]);
            Check.due("P4 the first " + lengths[i] + " bytes", x.errorPosition(), places[i]);
            Check.illegal("P42 empty behind " + lengths[i] + " bytes", () -> x.query(1));
            Check.due("P42 fed from the start behind " + lengths[i] + " bytes", x.feed(0, 0, 0, 0, 0), 20);
        }
    }

    /** P42: "for 'many' the number of hosts ...; for 'first' the smallest such host, or NONE". */
    private static void answers() {
        for (int hosts = 0; hosts <= 40; hosts++) {
            NetMerge x = new NetMerge();
            for (int i = 0; i < hosts; i++) {
                x.addHost(i % 2, 1 + i);
            }
            asked(x, "many 1=1", hosts);
            asked(x, "many 1=2", 0);
            asked(x, "many not 1=2", hosts);
            asked(x, "first 1=1", hosts == 0 ? -1 : 0);
            asked(x, "first 1=2", -1);
            asked(x, "first not host<" + (hosts - 1 < 0 ? 0 : hosts - 1), hosts - 1);
            asked(x, "many not host=0", hosts == 0 ? 0 : hosts - 1);
            asked(x, "first host>0", hosts < 2 ? -1 : 1);
        }
        Check.due("P42 HIDDEN minus 1", Check.query(five(), ""), -1000000001);
        Check.due("P42 HIDDEN minus 2", Check.query(five(), "many 10000=1"), -1000000002);
        Check.due("P42 HIDDEN minus 3", Check.query(five(), "many not not not not not not not 1=1"), -1000000003);
    }

    /** Section 5: "the tokens of section 4; each of the bytes ( ) < = > is a token, too". */
    private static void everyByte() {
        NetMerge x = five();
        for (int value = 0; value < 256; value++) {
            if (value % 50 == 0) {
                x = five();
            }
            char sign = (char) value;
            if (value == 32 || value == 10) {
                asked(x, "many" + sign + "1" + sign + "=" + sign + "1" + sign, 5);
            } else if (sign >= '0' && sign <= '9') {
                asked(x, "many 1=1" + sign, 0);
            } else if (sign == '<' || sign == '=' || sign == '>') {
                wrong(x, "many 1=1" + sign, 1, 8);
                asked(x, "many 1" + sign + "2", sign == '<' ? 5 : 0);
            } else {
                wrong(x, "many 1=1" + sign, 1, 8);
                wrong(x, "many 1" + sign + "1", 1, 6);
            }
        }
    }

    /** Section 5: the nine properties, on each side of each comparison, and no others. */
    private static void everyProperty() {
        String[] names = {"host", "office", "number", "old", "pinned", "planned", "wave", "clash", "reach"};
        NetMerge x = Check.made("nets keep 3;host z 1 5;host y 0 5;host a 1 60;move a 61 1;rule 1 allow any any;");
        x.wave();
        x.plan(2, 62, 6);
        int[] due = {2, 1, 61, 60, 0, 62, 6, 0, 1};
        for (int i = 0; i < names.length; i++) {
            asked(x, "many host=2 and " + names[i] + "=" + due[i], 1);
            asked(x, "many host=2 and " + due[i] + "=" + names[i], 1);
            asked(x, "many host=2 and " + names[i] + "<" + (due[i] + 1), 1);
            asked(x, "many host=2 and " + names[i] + "<" + due[i], 0);
            asked(x, "many host=2 and " + names[i] + ">" + due[i], 0);
            asked(x, "many " + names[i] + "=" + names[i], 3);
            wrong(x, "many " + names[i] + "s=1", 1, 5);
            wrong(x, "many 1=" + names[i].substring(1), 1, 7);
        }
        String[] others = {"name", "any", "rule", "keep", "per", "pool", "kept", "allow", "many", "first", "and", "or"};
        for (String word : others) {
            x = five();
            wrong(x, "many " + word + "=1", 1, 5);
            wrong(x, "many 1=" + word, 1, 7);
        }
    }

    private static void valuesOfProperties() {
        NetMerge x = Check.made("nets keep 1;host a 0 1;host b 1 250 pinned;host c 0 250;move c 250 1;move a 9 9;");
        asked(x, "first number=1", 0);
        asked(x, "first number=250", 1);
        asked(x, "many old=0", 3);
        asked(x, "first pinned=1", 1);
        asked(x, "many pinned=0", 2);
        asked(x, "first planned=9 and wave=9", 0);
        asked(x, "first planned=250 and wave=1", 2);
        asked(x, "first planned=0 and wave=0", 1);
        asked(x, "many clash=1", 2);
        asked(x, "many clash=0", 1);
        x.wave();
        asked(x, "first old=250", 2);
        asked(x, "first old=number", 2);
        asked(x, "many old=0", 2);
        asked(x, "many planned=0", 2);
        x.wave();
        asked(x, "many old=0", 3);
        NetMerge full = new NetMerge();
        for (int i = 0; i < 40; i++) {
            full.addHost(0, 1 + i);
        }
        asked(full, "many reach=0", 40);
        full.addRule(0, true, 40, 0);
        full.addRule(0, true, 0, 1);
        asked(full, "first reach=39", 39);
        asked(full, "many reach=1", 38);
        asked(full, "first reach=0", 0);
        asked(full, "first host=39", 39);
        asked(full, "first host=40", -1);
        for (int host = 0; host < 40; host++) {
            asked(full, "first reach=" + full.reach(host) + " and host=" + host, host);
        }
    }

    /** Section 5: "'reach' (as reach)", as it is when the query is read, on either side. */
    private static void reachAsItIs() {
        NetMerge x = Check.made("nets;host a 0 5;host b 0 6;host c 0 7;rule 0 allow 5 any;");
        asked(x, "first 2=reach", 0);
        asked(x, "first reach=2", 0);
        asked(x, "many 0=reach", 2);
        x.removeRule(0);
        asked(x, "many 0=reach", 3);
        x.addRule(0, true, 0, 7);
        asked(x, "many 1=reach", 2);
        asked(x, "first 0=reach", 2);
        x.undo();
        asked(x, "first 1=reach", -1);
        asked(x, "many reach=reach and reach<1 and 1>reach", 3);
        Check.load(x, "nets;host a 1 5;host b 1 6;rule 1 allow any any;");
        asked(x, "many 1=reach or reach=1", 2);
        asked(x, "many reach<host", 0);
        asked(x, "many host<reach", 1);
    }

    /** Section 5: "'clash' (1 if one of the numbers that it holds is a clash, otherwise 0)". */
    private static void clashOfEitherNumber() {
        NetMerge x = Check.made("nets keep 1;host a 0 5;host b 1 6;host c 1 7;move a 7 1;move b 5 1;move c 8 1;");
        asked(x, "many clash=1", 0);
        x.wave();
        asked(x, "many clash=1", 3);
        asked(x, "many clash=1 and number=8", 1);
        asked(x, "many clash>1 or clash<0", 0);
        x.wave();
        asked(x, "many clash=1", 0);
        NetMerge own = Check.made("nets;host a 0 1;host b 1 1;host c 1 250;host d 0 250;host e 0 2;");
        asked(own, "many clash=1", 4);
        asked(own, "first clash=0", 4);
    }

    /** Section 5: "a number (0 to 9999)". */
    private static void numbers() {
        NetMerge x = five();
        asked(x, "many 0=0", 5);
        asked(x, "many 9999=9999", 5);
        asked(x, "many 9998<9999", 5);
        asked(x, "many 9999<9998", 0);
        asked(x, "many 0000000009999=09999", 5);
        asked(x, "many 00000=0", 5);
        asked(x, "many number<9999", 5);
        asked(x, "many office>0", 2);
        wrong(x, "many 10000=1", 2, 5);
        wrong(x, "many 1=10000", 2, 7);
        wrong(x, "many 00010000=1", 2, 5);
        wrong(x, "many 99999=1", 2, 5);
        wrong(x, "many 2147483648=1", 2, 5);
        wrong(x, "many 4294967297=1", 2, 5);
        wrong(x, "many 18446744073709551617=1", 2, 5);
        wrong(x, "many 1=1 and (number>10000)", 2, 21);
        wrong(x, "many 1=1 10000", 1, 9);
        wrong(x, "many 1 10000", 1, 7);
    }

    private static void comparisons() {
        NetMerge x = five();
        asked(x, "many number<10", 0);
        asked(x, "many number<11", 2);
        asked(x, "many number>49", 1);
        asked(x, "many number>50", 0);
        asked(x, "many number=50", 1);
        asked(x, "many 10<number", 3);
        asked(x, "many 50>number", 4);
        asked(x, "many host<office", 0);
        asked(x, "many host=office", 2);
        asked(x, "many host>office", 3);
        asked(x, "first number>host", 0);
    }

    /** Section 5: 'or' of conjunctions, 'and' of factors, 'not' of one factor. */
    private static void bindings() {
        boolean[] sides = {false, true};
        for (boolean a : sides) {
            for (boolean b : sides) {
                for (boolean c : sides) {
                    NetMerge x = five();
                    String p = a ? "1=1" : "1=2";
                    String q = b ? "1=1" : "1=2";
                    String r = c ? "1=1" : "1=2";
                    holds(x, p + " or " + q + " and " + r, a || b && c);
                    holds(x, p + " and " + q + " or " + r, a && b || c);
                    holds(x, "(" + p + " or " + q + ") and " + r, (a || b) && c);
                    holds(x, p + " and (" + q + " or " + r + ")", a && (b || c));
                    holds(x, "not " + p + " and " + q + " or " + r, !a && b || c);
                    holds(x, "not " + p + " or " + q + " and " + r, !a || b && c);
                    holds(x, "not (" + p + " or " + q + ") and " + r, !(a || b) && c);
                    holds(x, "not not " + p + " and not " + q + " or not " + r, a && !b || !c);
                    holds(x, p + " or " + q + " or " + r, a || b || c);
                    holds(x, p + " and " + q + " and " + r, a && b && c);
                    holds(x, "not(" + p + " and not(" + q + " or not " + r + "))", !(a && !(b || !c)));
                    holds(x, p + " and " + q + " or " + r + " and " + p + " or " + q + " and " + r, a && b || c && a || b && c);
                    holds(x, p + " or " + q + " and " + r + " or " + p + " and " + r, a || b && c || a && c);
                }
            }
        }
        NetMerge x = five();
        asked(x, "many number=10 and office=1 or number=30 or host=4 and not pinned=1", 3);
        asked(x, "first office=1 and not number=10", 2);
    }

    private static void holds(NetMerge x, String test, boolean want) {
        asked(x, "many " + test, want ? 5 : 0);
    }

    /** Section 5: "3 for a 'not' or '(' that would be the seventh one open at the same time". */
    private static void sixOpenAtTheSameTime() {
        NetMerge x = five();
        for (int mix = 0; mix < 128; mix++) {
            if (mix % 20 == 0) {
                x = five();
            }
            StringBuilder text = new StringBuilder("many ");
            StringBuilder ends = new StringBuilder();
            int nots = 0;
            int seventh = 0;
            for (int depth = 0; depth < 7; depth++) {
                seventh = text.length();
                boolean not = (mix >> depth & 1) == 1;
                text.append(not ? "not " : "(");
                ends.append(not ? "" : ")");
                nots += not ? 1 : 0;
                if (depth == 5) {
                    asked(x, text + "1=1" + ends, nots % 2 == 0 ? 5 : 0);
                }
            }
            wrong(x, text + "1=1" + ends, 3, seventh);
            wrong(x, text.toString(), 3, seventh);
        }
    }

    /** Section 5: "A 'not' is open until the end of its factor", a '(' until its ')'. */
    private static void openUntilTheEndOfItsFactor() {
        NetMerge x = five();
        asked(x, "many not not not not not not 1=2 or not not not not not not 1=1", 5);
        asked(x, "many not not not not not not 1=1 and not not not not not not 1=1", 5);
        asked(x, "many ((((((1=1)))))) and ((((((1=1))))))", 5);
        asked(x, "many (((((not 1=2 and not 1=2 and (1=1) or not 1=1)))))", 5);
        asked(x, "many not(not(1=2 or not(1=1)) and not(1=1) or not(not(1=2)))", 5);
        wrong(x, "many not(not(not(1=2 or not(1=1))))", 3, 24);
        asked(x, "many not (1=2) and not not not not (not 1=2)", 5);
        asked(x, "many (not not not not not 1=2) and (not not not not not 1=2)", 5);
        wrong(x, "many (not not not not not 1=2) and (not not not not not not 1=1)", 3, 56);
        wrong(x, "many ((((((1=1 and (1=1)))))))", 3, 19);
        wrong(x, "many ((((((1=1 or not 1=1))))))", 3, 18);
        asked(x, "many (((((1=1 or not 1=1)))))", 5);
        wrong(x, "many (((((1=1 or not not 1=1)))))", 3, 21);
        wrong(x, "many not not not not not not (1=1)", 3, 29);
        wrong(x, "many not not not not not not 1 (1=1)", 1, 31);
        wrong(x, "many ((((((not)))))", 3, 11);
    }

    /** Section 4: "or the text ends too early (the position is then the length of the text)". */
    private static void theTextEndsTooEarly() {
        String whole = "first not ( host < 3 and ( number = 10 or 1 > old ) ) or not pinned = 1 ";
        for (int end = 0; end < whole.length(); end++) {
            if (whole.charAt(end) == ' ') {
                String text = whole.substring(0, end);
                boolean good = text.endsWith(") )") || text.endsWith("= 1");
                NetMerge x = five();
                if (good) {
                    asked(x, text, text.endsWith("1") ? 0 : 3);
                } else {
                    wrong(x, text, 1, text.length());
                    wrong(x, text + " \n", 1, text.length() + 2);
                }
            }
        }
        NetMerge x = five();
        wrong(x, "", 1, 0);
        wrong(x, "\n\n \n", 1, 4);
        wrong(x, "many", 1, 4);
        wrong(x, "first ", 1, 6);
    }

    /** A keyword is one in all of its letters. */
    private static void everyLetterOfAKeyword() {
        everyLetter("many not host=0 and office=1 or number=0");
        everyLetter("first old=1 or pinned=1 and planned=0");
        everyLetter("many wave=1 or clash=0 and reach=0");
    }

    private static void everyLetter(String whole) {
        NetMerge x = five();
        Check.query(x, whole);
        Check.due("P42 \"" + whole + "\" is a query", x.errorPosition(), -1);
        int start = 0;
        for (int i = 0; i < whole.length(); i++) {
            boolean letter = whole.charAt(i) >= 'a' && whole.charAt(i) <= 'z';
            if (i > 0 && letter && !(whole.charAt(i - 1) >= 'a' && whole.charAt(i - 1) <= 'z')) {
                start = i;
            }
            if (letter) {
                wrong(x, whole.substring(0, i) + "z" + whole.substring(i + 1), 1, start);
                wrong(x, whole.substring(0, i) + whole.charAt(i) + "z" + whole.substring(i + 1), 1, start);
            }
        }
    }

    private static void wrongTokens() {
        NetMerge x = five();
        wrong(x, "1=1", 1, 0);
        wrong(x, "(1=1)", 1, 0);
        wrong(x, "not 1=1", 1, 0);
        wrong(x, "manyone 1=1", 1, 0);
        wrong(x, "firs 1=1", 1, 0);
        wrong(x, "many many 1=1", 1, 5);
        wrong(x, "first many 1=1", 1, 6);
        wrong(x, "many ) 1=1", 1, 5);
        wrong(x, "many 1=1 )", 1, 9);
        wrong(x, "many (1=1))", 1, 10);
        wrong(x, "many (1=1 and", 1, 13);
        wrong(x, "many (1=1 (", 1, 10);
        wrong(x, "many 1=1 or and 1=1", 1, 12);
        wrong(x, "many 1=1 and or 1=1", 1, 13);
        wrong(x, "many or 1=1", 1, 5);
        wrong(x, "many 1=1=1", 1, 8);
        wrong(x, "many 1<>1", 1, 7);
        wrong(x, "many 1>=1", 1, 7);
        wrong(x, "many (1)=1", 1, 7);
        wrong(x, "many 1=(1)", 1, 7);
        wrong(x, "many 1=not 1=1", 1, 7);
        wrong(x, "many not and 1=1", 1, 9);
        wrong(x, "many host", 1, 9);
        wrong(x, "many pinned and 1=1", 1, 12);
        wrong(x, "many 1=1 many", 1, 9);
        wrong(x, "many 1=1;", 1, 8);
        wrong(x, "many 1=1 nots", 1, 9);
        wrong(x, "many 1=1 andnot 1=1", 1, 9);
        asked(x, "many1=1and1=1or1=1", 5);
        asked(x, "first(not(host=0))", 1);
        asked(x, "many\n1\n=\n1\n", 5);
    }

    private static void firstErrors() {
        NetMerge x = five();
        wrong(x, "many 10000=10000", 2, 5);
        wrong(x, "many 1=10000 ?", 2, 7);
        wrong(x, "many ? 10000=1", 1, 5);
        wrong(x, "many not not not not not not not 10000", 3, 29);
        wrong(x, "many 10000 not not not not not not not", 2, 5);
        wrong(x, "all 10000=1", 1, 0);
        wrong(x, "many (1=x) or 10000=1", 1, 8);
    }

    private static void changesNothing() {
        NetMerge x = Check.made("nets;host a 0 10;host b 1 10;move a 20 1;rule 0 allow any any;");
        x.wave();
        x.saveSnapshot();
        x.format(0);
        String before = Check.shown(x);
        asked(x, "many reach>0 or clash=1 or old=10", 2);
        wrong(x, "many reach>", 1, 11);
        Check.due("P42 no change", Check.shown(x), before);
        Check.due("P42 no operation", x.undoCount(), 1);
        Check.due("P42 the text of format stays", Check.lastFormatted(x), "a 20+10");
        x.undo();
        Check.due("P42 the snapshot stays", x.restoreSnapshot(), true);
        Check.due("P42 as it was", Check.shown(x), before);
    }

    private static void asked(NetMerge x, String text, int want) {
        Check.due("P42 \"" + text + "\"", Check.query(x, text), want);
        Check.due("P4 behind \"" + text + "\"", x.errorPosition(), -1);
    }

    private static void wrong(NetMerge x, String text, int code, int position) {
        Check.due("P42 code of \"" + text + "\"", Check.query(x, text), -1000000000 - code);
        Check.due("P4 position in \"" + text + "\"", x.errorPosition(), position);
    }
}
