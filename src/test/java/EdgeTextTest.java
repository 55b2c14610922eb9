/** Section 4, the input text of promise 3, sentence by sentence: the edges that the document names. */
public final class EdgeTextTest {
    private static final String EMPTY = "0 0 0 0 1 3 200 250 0 0 0 ";

    public static void main(String[] args) {
        everyByteInAText();
        everyByteInAWord();
        tokensNeedNoSpace();
        theTextEndsTooEarly();
        headParts();
        headRanges();
        clausesInAnyOrder();
        names();
        hostRanges();
        ruleRanges();
        moveRanges();
        leadingZeros();
        everyLetterOfAKeyword();
        fullTables();
        takenNamesAndNumbers();
        wrongHosts();
        fullWaves();
        theFirstError();
        theSmallestCode();
        Check.end("EdgeTextTest");
    }

    /** "The bytes 32 and 10 separate tokens ... Every other byte is an invalid token." */
    private static void everyByteInAText() {
        for (int value = 0; value < 256; value++) {
            char sign = (char) value;
            boolean space = value == 32 || value == 10;
            boolean letter = sign >= 'a' && sign <= 'z';
            if (space) {
                good("nets" + sign + ";", EMPTY);
                good(sign + "nets;" + sign + sign, EMPTY);
            } else if (letter) {
                bad("nets" + sign + ";", 1, 0);
                bad("nets;" + sign, 1, 5);
            } else {
                bad("nets" + sign + sign + ";", 1, sign == ';' ? 5 : 4);
                bad("nets;" + sign, 1, 5);
                bad(" " + sign + "nets;", 1, 1);
            }
        }
    }

    /** "a word is a maximal run of the letters a to z; a number is a maximal run of digits". */
    private static void everyByteInAWord() {
        for (int value = 0; value < 256; value++) {
            char sign = (char) value;
            String text = "nets;host q" + sign + "q 0 12;";
            if (sign >= 'a' && sign <= 'z') {
                good(text, "1 0 0 0 1 3 200 250 0 0 0 | q" + sign + "q 0 12 0 0 0 0 0");
            } else if (value == 32 || value == 10) {
                bad(text, 1, 12);
            } else if (sign == '0' || sign == '1') {
                // the digit is the office then, and the word behind it no number
                bad(text, 1, 12);
            } else {
                bad(text, sign >= '2' && sign <= '9' ? 2 : 1, 11);
            }
            String number = "nets;host q 0 1" + sign + "2;";
            if (sign >= '0' && sign <= '9') {
                good(number, "1 0 0 0 1 3 200 250 0 0 0 | q 0 1" + sign + "2 0 0 0 0 0");
            } else {
                bad(number, 1, value == 32 || value == 10 ? 16 : sign == ';' ? 16 : 15);
            }
        }
    }

    /** Words and numbers are maximal runs: nothing needs to stand between them. */
    private static void tokensNeedNoSpace() {
        good("nets keep0per1pool1 2;host a0 1pinned;rule1allow 1any;rule0deny any 2;host b1 1;move b250 9;",
                "2 2 1 0 0 1 1 2 0 1 0 | a 0 1 0 1 0 0 0| b 1 1 0 0 250 9 0/ 1 1 1 0 / 0 0 0 2 ");
        good("\n\n  nets\n \nkeep\n3\nper\n9\npool\n1\n1\n;\n\n", "0 0 0 0 3 9 1 1 0 0 0 ");
        bad("ne ts;", 1, 0);
        bad("ne\nts;", 1, 0);
        bad("netskeep 1;", 1, 0);
        bad("nets pool 12;", 1, 12);
        bad("nets keep 1 0;", 1, 12);
        bad("nets;host ab 0 1;ho st cd 0 2;", 1, 17);
        bad("nets;rule 0 allowany any;", 1, 12);
        bad("nets;rule 0 allow anyany;", 1, 18);
    }

    /** "or the text ends too early (the position is then the length of the text)". */
    private static void theTextEndsTooEarly() {
        String whole = "nets keep 1 per 2 pool 3 4 ; host ab 0 5 pinned ; host c 1 5 ; rule 0 allow any 6 ; "
                + "rule 1 deny 7 any ; move c 8 9 ; ";
        for (int end = 0; end < whole.length(); end++) {
            if (whole.charAt(end) == ' ') {
                String text = whole.substring(0, end);
                if (text.endsWith(";")) {
                    NetMerge x = new NetMerge();
                    Check.due("P3 \"" + text + "\"", Check.load(x, text) >= 0, true);
                    Check.due("P4 \"" + text + "\"", x.errorPosition(), -1);
                } else {
                    bad(text, 1, text.length());
                    bad(text + " \n ", 1, text.length() + 3);
                }
            }
        }
        bad("", 1, 0);
        bad("\n", 1, 1);
    }

    /** "'nets' ['keep' KEEP] ['per' PER] ['pool' from to] ';'": each may be there or not, in this order. */
    private static void headParts() {
        for (int parts = 0; parts < 8; parts++) {
            boolean keep = (parts & 1) != 0;
            boolean per = (parts & 2) != 0;
            boolean pool = (parts & 4) != 0;
            good("nets" + (keep ? " keep 2" : "") + (per ? " per 7" : "") + (pool ? " pool 17 23" : "") + ";",
                    "0 0 0 0 " + (keep ? 2 : 1) + " " + (per ? 7 : 3) + (pool ? " 17 23" : " 200 250") + " 0 0 0 ");
        }
        bad("nets per 3 keep 2;", 1, 11);
        bad("nets pool 1 2 keep 2;", 1, 14);
        bad("nets pool 1 2 per 2;", 1, 14);
        bad("nets keep 2 keep 2;", 1, 12);
        bad("nets per 2 per 2;", 1, 11);
        bad("nets pool 1 2 pool 1 2;", 1, 14);
        bad("keep 1;", 1, 0);
        bad("nets nets;", 1, 5);
        bad("nets keep keep;", 1, 10);
        bad("nets keep ;", 1, 10);
        bad("nets per;", 1, 8);
        bad("nets per x;", 1, 9);
        bad("nets pool;", 1, 9);
        bad("nets pool any 5;", 1, 10);
        bad("nets pool 5 any;", 1, 12);
        bad("nets pool 5 ;", 1, 12);
        bad("nets 1;", 1, 5);
        bad("nets;keep 1;", 1, 5);
        bad("nets;;", 1, 5);
        bad("nets;host a 0 1;;", 1, 16);
    }

    /** KEEP 0 to 3, PER 1 to 9, from and to 1 to 250, "to is not less than from". */
    private static void headRanges() {
        for (int keep = 0; keep <= 3; keep++) {
            good("nets keep " + keep + ";", "0 0 0 0 " + keep + " 3 200 250 0 0 0 ");
        }
        bad("nets keep 4;", 2, 10);
        bad("nets keep 10;", 2, 10);
        for (int per = 1; per <= 9; per++) {
            good("nets per " + per + ";", "0 0 0 0 1 " + per + " 200 250 0 0 0 ");
        }
        bad("nets per 0;", 2, 9);
        bad("nets per 10;", 2, 9);
        good("nets pool 1 1;", "0 0 0 0 1 3 1 1 0 0 0 ");
        good("nets pool 1 250;", "0 0 0 0 1 3 1 250 0 0 0 ");
        good("nets pool 250 250;", "0 0 0 0 1 3 250 250 0 0 0 ");
        good("nets pool 249 250;", "0 0 0 0 1 3 249 250 0 0 0 ");
        bad("nets pool 0 1;", 2, 10);
        bad("nets keep 0 pool 0 5;", 2, 17);
        bad("nets per 1 pool 0 0;", 2, 16);
        bad("nets pool 251 250;", 2, 10);
        bad("nets pool 251 251;", 2, 10);
        bad("nets pool 1 0;", 2, 12);
        bad("nets pool 1 251;", 2, 12);
        bad("nets pool 250 251;", 2, 14);
        bad("nets pool 250 249;", 2, 14);
        bad("nets pool 2 1;", 2, 12);
        bad("nets pool 100 99;", 2, 14);
    }

    /** "(clause ';')*" with clauses of three kinds, in any order. */
    private static void clausesInAnyOrder() {
        good("nets;rule 0 allow 1 2;host a 0 1;move a 2 1;rule 0 deny 2 1;host b 0 2;move b 1 1;",
                "2 2 2 0 1 3 200 250 0 0 0 | a 0 1 0 0 2 1 0| b 0 2 0 0 1 1 0/ 0 1 1 2 / 0 0 2 1 ");
        bad("nets;host a 0 1 rule 0 allow 1 2;", 1, 16);
        bad("nets;rule 0 allow 1 2 rule 0 allow 1 2;", 1, 22);
        bad("nets;host a 0 1;move a 1 1 move a 1 1;", 1, 27);
        bad("nets;host a 0 1,", 1, 15);
        bad("nets;pinned;", 1, 5);
        bad("nets;any;", 1, 5);
        bad("nets;allow;", 1, 5);
        bad("nets;Host a 0 1;", 1, 5);
        bad("nets;hos a 0 1;", 1, 5);
        bad("nets;rules 0 allow any any;", 1, 5);
        bad("nets;moves a 1 1;", 1, 5);
        bad("nets;7;", 1, 5);
    }

    /** "A NAME is any word of at most 8 letters". */
    private static void names() {
        String[] words = {"a", "z", "abcdefgh", "nets", "keep", "per", "pool", "host", "rule", "move", "pinned", "any",
            "allow", "deny", "many", "first", "not"};
        for (String word : words) {
            good("nets;host " + word + " 0 1;move " + word + " 2 3;",
                    "1 0 1 0 1 3 200 250 0 0 0 | " + word + " 0 1 0 0 2 3 0");
        }
        bad("nets;host abcdefghi 0 1;", 2, 10);
        bad("nets;host zzzzzzzzzzzzzzzzzzzz 0 1;", 2, 10);
        bad("nets;host ; 0 1;", 1, 10);
        bad("nets;host 1 0 1;", 1, 10);
        bad("nets;host abcdefgh", 1, 18);
        good("nets;host abcdefgh 0 1;host abcdefg 0 2;host bcdefgh 0 3;host hgfedcba 0 4;",
                "4 0 0 0 1 3 200 250 0 0 0 | abcdefgh 0 1 0 0 0 0 0| abcdefg 0 2 0 0 0 0 0"
                + "| bcdefgh 0 3 0 0 0 0 0| hgfedcba 0 4 0 0 0 0 0");
    }

    /** An office is 0 or 1, a number 1 to 250. */
    private static void hostRanges() {
        good("nets;host a 0 1;host b 1 250 pinned;",
                "2 0 0 0 1 3 200 250 0 0 0 | a 0 1 0 0 0 0 0| b 1 250 0 1 0 0 0");
        bad("nets;host a 2 1;", 2, 12);
        bad("nets;host a 10 1;", 2, 12);
        bad("nets;host a 4294967296 1;", 2, 12);
        bad("nets;host a any 1;", 1, 12);
        bad("nets;host a 0 0;", 2, 14);
        bad("nets;host a 0 251;", 2, 14);
        bad("nets;host a 0 1000;", 2, 14);
        bad("nets;host a 0 4294967297;", 2, 14);
        bad("nets;host a 0 18446744073709551617;", 2, 14);
        bad("nets;host a 0 pinned;", 1, 14);
        bad("nets;host a 0 1 pinned pinned;", 1, 23);
        bad("nets;host a 0 1 pinne;", 1, 16);
        bad("nets;host a 0 1 2;", 1, 16);
        bad("nets;host a 0 -1;", 1, 14);
    }

    /** A side is 'any' or a number, which is 1 to 250. */
    private static void ruleRanges() {
        good("nets;rule 0 allow any any;rule 1 deny 1 1;rule 0 deny 250 250;rule 1 allow any 1;rule 0 allow 250 any;",
                "0 5 0 0 1 3 200 250 0 0 0 / 0 1 0 0 / 1 0 1 1 / 0 0 250 250 / 1 1 0 1 / 0 1 250 0 ");
        bad("nets;rule 2 allow 1 1;", 2, 10);
        bad("nets;rule allow 1 1;", 1, 10);
        bad("nets;rule 0 any 1 1;", 1, 12);
        bad("nets;rule 0 1 1 1;", 1, 12);
        bad("nets;rule 0 allows 1 1;", 1, 12);
        bad("nets;rule 0 allow deny 1 1;", 1, 18);
        bad("nets;rule 0 allow 0 1;", 2, 18);
        bad("nets;rule 0 allow 251 1;", 2, 18);
        bad("nets;rule 0 allow 1 0;", 2, 20);
        bad("nets;rule 0 allow 1 251;", 2, 20);
        bad("nets;rule 0 deny x 1;", 1, 17);
        bad("nets;rule 0 deny 1 x;", 1, 19);
        bad("nets;rule 0 deny any;", 1, 20);
        bad("nets;rule 0 deny any any 1;", 1, 25);
    }

    /** A number is 1 to 250, "A wave is 1 to 9". */
    private static void moveRanges() {
        String host = "nets;host a 0 5;";
        good(host + "move a 1 1;", "1 0 1 0 1 3 200 250 0 0 0 | a 0 5 0 0 1 1 0");
        good(host + "move a 250 9;", "1 0 1 0 1 3 200 250 0 0 0 | a 0 5 0 0 250 9 0");
        good(host + "move a 5 5;", "1 0 1 0 1 3 200 250 0 0 0 | a 0 5 0 0 5 5 0");
        bad(host + "move a 0 1;", 2, 23);
        bad(host + "move a 251 1;", 2, 23);
        bad(host + "move a any 1;", 1, 23);
        bad(host + "move a 1 0;", 2, 25);
        bad(host + "move a 1 10;", 2, 25);
        bad(host + "move a 1 4294967297;", 2, 25);
        bad(host + "move a 1 any;", 1, 25);
        bad(host + "move a 1 1 1;", 1, 27);
        bad(host + "move a 1;", 1, 24);
        bad(host + "move a;", 1, 22);
        bad(host + "move;", 1, 20);
    }

    /** "leading zeros are allowed"; a position is that "of the first byte of its token". */
    private static void leadingZeros() {
        String zeros = "00000000000000000000";
        good("nets keep " + zeros + "3 per " + zeros + "9 pool " + zeros + "1 " + zeros + "250;", "0 0 0 0 3 9 1 250 0 0 0 ");
        good("nets keep 00;host a 00 0250;host b 01 " + zeros + "1;rule 00 allow 0250 001;move a 0007 0000009;",
                "2 1 1 0 0 3 200 250 0 0 0 | a 0 250 0 0 7 9 0| b 1 1 0 0 0 0 0/ 0 1 250 1 ");
        bad("nets keep " + zeros + "4;", 2, 10);
        bad("nets per " + zeros + ";", 2, 9);
        bad("nets;host a 0 5;host b 0 " + zeros + "5;", 3, 25);
        bad("nets;host a 0 " + zeros + "251;", 2, 14);
        bad("nets  \n  keep\n 0004;", 2, 15);
    }

    /** A keyword is one in all of its letters: with another one it is a word that is not allowed there. */
    private static void everyLetterOfAKeyword() {
        String whole = "nets keep 1 per 2 pool 3 4;host a 0 5 pinned;host b 1 5;rule 0 allow any 6;rule 1 deny 7 any;move b 8 9;";
        good(whole, "2 2 1 0 1 2 3 4 0 1 0 | a 0 5 0 1 0 0 0| b 1 5 0 0 8 9 0/ 0 1 0 6 / 1 0 7 0 ");
        int start = 0;
        for (int i = 0; i < whole.length(); i++) {
            boolean letter = whole.charAt(i) >= 'a' && whole.charAt(i) <= 'z';
            if (i > 0 && letter && !(whole.charAt(i - 1) >= 'a' && whole.charAt(i - 1) <= 'z')) {
                start = i;
            }
            boolean ofName = whole.charAt(i) == 'b' || whole.startsWith("a 0", i);
            if (letter && !ofName) {
                bad(whole.substring(0, i) + "z" + whole.substring(i + 1), 1, start);
                bad(whole.substring(0, i) + whole.charAt(i) + "z" + whole.substring(i + 1), 1, start);
                if (i == start) {
                    bad(whole.substring(0, i) + whole.substring(i + 1), 1, start);
                }
            }
        }
    }

    /** "The keyword of the 41st host or of the 31st rule". */
    private static void fullTables() {
        String hosts = hosts(40);
        String rules = "nets;" + "rule 0 deny any any;".repeat(30);
        bad(hosts + "host zz 0 250;", 3, hosts.length());
        bad(hosts + "\nhost", 3, hosts.length() + 1);
        bad(hosts + "host 7 7 7;", 3, hosts.length());
        bad(hosts + "host aa 0 1;", 3, hosts.length());
        bad(hosts + "rule 0 allow any host", 1, hosts.length() + 17);
        bad(hosts + "host0;", 3, hosts.length());
        bad(hosts + "hosta 0 250;", 1, hosts.length());
        bad(hosts.substring(0, hosts.length() - 1) + " host", 1, hosts.length());
        NetMerge x = new NetMerge();
        Check.due("P3 40 hosts and a rule and a move", Check.load(x, hosts + "rule 0 allow any any;move aa 9 9;"), 40);
        bad(rules + "rule 0 allow any any;", 3, rules.length());
        bad(rules + " rule", 3, rules.length() + 1);
        bad(rules + "rule 2 x;", 3, rules.length());
        bad(rules + "rules;", 1, rules.length());
        NetMerge y = new NetMerge();
        Check.due("P3 30 rules and a host", Check.load(y, rules + "host a 0 1;"), 1);
        Check.due("P3 30 rules", y.size(1), 30);
    }

    private static String hosts(int count) {
        StringBuilder text = new StringBuilder("nets;");
        for (int i = 0; i < count; i++) {
            text.append("host ").append((char) ('a' + i / 26)).append((char) ('a' + i % 26));
            text.append(i % 2).append(' ').append(1 + i).append(';');
        }
        return text.toString();
    }

    /** "a NAME that a host has; the number of a host that another host of its office has". */
    private static void takenNamesAndNumbers() {
        bad("nets;host a 0 1;host a 1 2;", 3, 21);
        bad("nets;host a 0 1;host b 0 2;host b", 3, 32);
        bad("nets;host a 0 1;host abcdefgh 1 2;host abcdefgh 0 3;", 3, 39);
        bad("nets;host a 0 7;host b 0 7;", 3, 25);
        bad("nets;host a 1 7;host b 0 7;host c 1 7 pinned;", 3, 36);
        bad("nets;host a 0 1;host b 0 250;host c 0 250", 3, 38);
        good("nets;host a 0 7;host b 1 7;", "2 0 0 0 1 3 200 250 0 1 0 | a 0 7 0 0 0 0 0| b 1 7 0 0 0 0 0");
        good("nets;host a 0 7;move a 8 1;host b 0 8;",
                "2 0 1 0 1 3 200 250 0 0 0 | a 0 7 0 0 8 1 0| b 0 8 0 0 0 0 0");
    }

    /** "A HOST that is none, is pinned or has a plan": "any other word is none". */
    private static void wrongHosts() {
        bad("nets;move a 1 1;", 4, 10);
        bad("nets;move a 1 1;host a 0 5;", 4, 10);
        bad("nets;host a 0 5;move b 1 1;", 4, 21);
        bad("nets;host a 0 5;move aa 1 1;", 4, 21);
        bad("nets;host aa 0 5;move a 1 1;", 4, 22);
        bad("nets;host a 0 5;move abcdefghi 1 1;", 4, 21);
        bad("nets;host abcdefgh 0 5;move abcdefghi 1 1;", 4, 28);
        bad("nets;host a 0 5;move abcdefghijklmnopqrstuvwxyz", 4, 21);
        bad("nets;host a 0 5;move 5 1 1;", 1, 21);
        bad("nets;host a 0 5;move 0 1 1;", 1, 21);
        bad("nets;host a 0 5;move ; 1 1;", 1, 21);
        bad("nets;host a 0 5 pinned;move a 1 1;", 4, 28);
        bad("nets;host a 0 5;move a 1 1;move a 1 2;", 4, 32);
        bad("nets;host a 0 5;host b 0 6;move a 1 1;move b 2 2;move a", 4, 54);
    }

    /** "the number of a wave that has PER plans". */
    private static void fullWaves() {
        for (int per = 1; per <= 9; per++) {
            StringBuilder text = new StringBuilder("nets per " + per + ";");
            text.append(hosts(10).substring(5));
            for (int i = 0; i < per; i++) {
                text.append("move a").append((char) ('a' + i)).append(" 7 9;");
            }
            NetMerge x = new NetMerge();
            Check.due("P3 PER " + per + ": as many plans", Check.load(x, text.toString()), 10);
            Check.due("P10 PER " + per + ": as many plans", x.plans(9), per);
            String more = "move aj 7 ";
            bad(text + more + "9;", 4, text.length() + more.length());
            bad(text + more + "009", 4, text.length() + more.length());
            Check.due("P3 PER " + per + ": another wave", Check.load(x, text + more + "8;"), 10);
        }
        bad("nets per 1;host a 0 5;host b 0 6;move a 9 1;move b 9 1;", 4, 53);
    }

    /** "The first error along the text is reported". */
    private static void theFirstError() {
        bad("nets keep 4 per 0;", 2, 10);
        bad("nets;host a 2 0;", 2, 12);
        bad("nets;host a 0 0;host a 0 0;", 2, 14);
        bad("nets;host a 0 1;host a 0 1;", 3, 21);
        bad("nets;host a 0 1;host b 0 1;host abcdefghi 0 1;", 3, 25);
        bad("nets;move a 0 0;", 4, 10);
        bad("nets;host a 0 5;move a 0 10;", 2, 23);
        bad("nets;host a 0 5 !;host a 0 5;", 1, 16);
        bad("nets;host abcdefghi 2 0;", 2, 10);
        bad("nets;host a 0 1;rule 0 allow 251 !", 2, 29);
        bad("nets? keep 4;", 1, 4);
        bad("!", 1, 0);
    }

    /** "if several codes apply to one token, the smallest one". */
    private static void theSmallestCode() {
        bad("nets per 1;host a 0 5;host b 0 6;move a 9 1;move b 9 10;", 2, 53);
        bad("nets per 1;host a 0 5;host b 0 6;move a 9 1;move b 9 x;", 1, 53);
        bad("nets;host a 0 5;host b 0 host;", 1, 25);
        String hosts = hosts(40);
        bad(hosts.substring(0, hosts.length() - 1) + "host;", 1, hosts.length() - 1);
        bad(hosts + "move host 1 1;", 4, hosts.length() + 5);
    }

    private static void good(String text, String shown) {
        NetMerge x = new NetMerge();
        int hosts = Check.load(x, text);
        Check.due("P3 \"" + text + "\"", Check.shown(x), shown);
        Check.due("P3 the answer of \"" + text + "\"", hosts, x.size(0));
        Check.due("P4 no error in \"" + text + "\"", x.errorPosition(), -1);
    }

    private static void bad(String text, int code, int position) {
        NetMerge x = Check.made("nets keep 0 per 1 pool 9 9;host q 1 7;");
        String before = Check.shown(x);
        Check.due("P3 code of \"" + text + "\"", Check.load(x, text), -10 - code);
        Check.due("P4 position in \"" + text + "\"", x.errorPosition(), position);
        Check.due("P3 nothing is read of \"" + text + "\"", Check.shown(x), before);
    }
}
