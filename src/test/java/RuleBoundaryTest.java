/** The bounds that the document names of the text of a RULE, of its FAULTS, and of what it bids. */
public final class RuleBoundaryTest extends Sentences {
    /** 2 to the 63rd, which goes round to the least number of all; 1 less is the most. */
    private static final String WRAP = "32768*32768*32768*32768*8";

    private static void clauses() {
        sentence("RULES 0 to 5: texts likewise, 12 CLAUSES at most: bid SUM [ if TEST ].");
        ruleStands(filled("bid 1", 400));
        ruleStands(times(" ", 395) + "bid 1");
        ruleFault(filled("bid 1", 399) + ";", 400, 0);
        ruleFault(times("[", 400), 0, 0);
        ruleFault(filled("bid 1 if 1", 399) + "<", 400, 0);
        ruleFault(filled("bid 1", 394) + "if 1>=", 400, 0);
        ruleFault(filled("bid 1 if 1=", 394) + "123456", 394, 1);
        ruleFault(filled("bid ", 394) + "jumper", 394, 0);
        ruleStands(filled("bid ", 392) + "treasury");
        bids("bid 1 if 1=2" + times(";bid 1 if 1=2", 10) + ";bid 12", 12);
        bids("bid 1 if 1=2" + times(";bid 1 if 1=2", 10) + ";bid 12 if 1=1", 12);
        bids("bid 1 if 1=2" + times(";bid 1 if 1=2", 11), 0);
        bids("bid 3" + times(";bid 1", 11), 3);
        sentence("one CLAUSE too many,");
        ruleFault("bid 1" + times(";bid 1", 12), 12 * 6, 4);
        ruleFault("bid 1" + times(";bid 1", 11) + " ;  bid", 12 * 6 + 3, 4);
        ruleFault("bid 1" + times(";bid 1", 50), 12 * 6, 4);
        ruleFault("bid 1" + times(";bid 1", 11) + ";", 12 * 6, 0);
    }

    private static void numbers() {
        sentence("NUMBER (1 to 5 digits, as far as digits go on)");
        bids("bid 1", 1);
        bids("bid 00999", 999);
        bids("bid 99999-99000", 999);
        bids("bid 10-00009", 1);
        ruleFault("bid 000001", 4, 1);
        ruleFault("bid  100000", 5, 1);
        ruleFault("bid 4294967297", 4, 1);
        ruleFault("bid " + times("1", 396), 4, 1);
        ruleFault("bid 1 2", 6, 0);
        ruleFault("bid 100 000", 8, 0);
        ruleFault("bid 1 if 1<1234567", 11, 1);
        bids("bid2if1=1", 2);
        bids("bid 1+high if day<2;bid 3", 1);
    }

    private static void words() {
        sentence("WORDS (small letters, as far as these go on) of a BIDDER:");
        String[] words = {"bidder", "purse", "dare", "high", "holder", "jump", "men", "treasury", "turn", "out", "day"};
        int[] values = {0, 30, 20, 0, -1, 1, 10, 70, 0, 0, 0};
        for (int i = 0; i < words.length; i++) {
            bids("bid 7+" + words[i], 7 + values[i]);
            bids("bid7+" + words[i] + "-0", 7 + values[i]);
            ruleFault("bid " + words[i] + "s", 4, 0);
            ruleFault("bid " + words[i].substring(1), 4, 0);
            ruleFault("bid " + words[i].substring(0, words[i].length() - 1), 4, 0);
            ruleFault("bid " + words[i].substring(0, 1).toUpperCase() + words[i].substring(1), 4, 0);
            ruleFault("bid " + words[i] + "1", 4 + words[i].length(), 0);
            ruleFault("bid " + words[i] + words[i], 4, 0);
            ruleFault("bid " + words[i] + " " + words[i], 5 + words[i].length(), 0);
        }
        for (String other : new String[] {"bid", "if", "or", "and", "not", "empire", "guard", "general", "road", "a"}) {
            ruleFault("bid " + other, 4, 0);
        }
        ruleFault("bids 1", 0, 0);
        ruleFault("bidhigh", 0, 0);
        ruleFault("bid 1 iff 1=1", 6, 0);
        ruleFault("bid 1 if 1=1 an 1=1", 13, 0);
        ruleFault("bid 1 if 1=1 orr 1=1", 13, 0);
        ruleFault("bid 1 if nott 1=1", 9, 0);
        ruleFault("bid 1 if not1=1 and1=1 or1=1x", 28, 0);
        bids("bid 1 if not1=1or not1=2and1=1;bid 2", 1);
    }

    private static void wordsOfSale() {
        sentence("high (the highest bid so far, 0 at first), holder (whose it is; -1),");
        bids("bid high+4", 4);
        bids("bid 5 if holder=0-1;bid 6", 5);
        bids("bid 5 if high=0;bid 6", 5);
        // 19 by 0 (nobody's), 20 by 1 (of 0), 21 by 0 (of 1); 20 by 1 is too little.
        ThroneSale x = told("empire 0 1;bidder 0 0;bidder 0 0", "bid 20+holder");
        x.force(0);
        sale("of whose it is", x, 0, 21, 4);
        sentence("men (of all BANDS that have not LEFT), treasury,");
        ThroneSale y = sold("empire 90 1;guard 4 100 0;guard 3 0 0;bidder 0 1;bidder 0 0", "bid 4-bidder",
                "bid men*10+treasury");
        due("of all", y.count(11), 0);
        y.kill();
        sale("7 men and 90 coins", y, 0, 160, 2);
        y.sell();
        days(y, 2);
        sale("3 men and 76 coins", y, 0, 106, 2);
        sentence("turn (how many bids were asked for ahead of this one), out (how many are OUT), day.");
        bids("bid 7+turn", 7);
        bids("bid 7+out", 7);
        // 1, 101, .. 901, and 1001 is too much.
        ThroneSale z = told("empire 0 1;bidder 0 0;bidder 0 0", "bid 100*turn+1", "bid 0 if bidder<2;bid 5*out",
                "bid 5*day");
        z.force(0);
        sale("the first is 0", z, 1, 901, 11);
        z.force(2);
        sale("day 0", z, NONE, 0, 2);
        days(z, 3);
        sale("day 3", z, 0, 15, 2);
        ThroneSale w = told("empire 0 1;bidder 0 0;bidder 0 0;bidder 0 0", "bid 0 if bidder<2;bid 5*out");
        w.force(0);
        sale("two are out", w, 2, 10, 3);
    }

    private static void division() {
        sentence("/ is towards 0, % its rest, both 0 by 0;");
        bids("bid 50+7/2", 53);
        bids("bid 50+7*holder/2", 47);
        bids("bid 50+7/holder", 43);
        bids("bid 50+1*holder/2", 50);
        bids("bid 50+7%4", 53);
        bids("bid 50+7*holder%4", 47);
        bids("bid 50+8*holder%4", 50);
        bids("bid 50+7*holder/0+7*holder%0", 50);
        bids("bid 50+7/0", 50);
        bids("bid 50+7%0", 50);
        bids("bid 50+0/0+0%0", 50);
        bids("bid 50+7/high", 50);
        bids("bid 50+7%turn", 50);
        bids("bid 50+7/0*3", 50);
        bids("bid 50+0/7", 50);
        bids("bid 5 if 1/0=0 and 1%0=0;bid 6", 5);
    }

    private static void wrapAround() {
        sentence("all goes round in 64 bits.");
        bids("bid 5 if " + WRAP + "<0;bid 6", 5);
        bids("bid 5 if " + WRAP + "-1>0;bid 6", 5);
        bids("bid 5 if " + WRAP + "-1+1<0;bid 6", 5);
        bids("bid 5 if " + WRAP + "=" + WRAP + "*holder;bid 6", 5);
        bids("bid 5 if " + WRAP + "*2=0;bid 6", 5);
        bids("bid 5 if " + WRAP + "+" + WRAP + "=0;bid 6", 5);
        bids("bid 5 if " + WRAP + "/holder=" + WRAP + ";bid 6", 5);
        bids("bid 5 if " + WRAP + "%holder=0;bid 6", 5);
        bids("bid 5 if 65536*65536>65536;bid 6", 5);
        bids("bid 5 if 65536*32768>0;bid 6", 5);
        bids("bid 5 if 65536*65536=0;bid 6", 6);
        bids("bid " + WRAP + "+" + WRAP + "+8", 8);
        bids("bid " + WRAP, 0);
        bids("bid " + WRAP + "-1", 0);
        bids("bid 65536*65536+5", 0);
        bids("bid 65536*32768*2+5", 0);
        bids("bid 0-65536*65536+5", 0);
        // Its difference from a highest bid would go round and be more than any JUMP.
        ThroneSale x = told("empire 0 1;bidder 0 0;bidder 0 0", "bid 5 if bidder=0;bid " + WRAP);
        x.force(0);
        sale("far below", x, 0, 5, 2);
    }

    private static void signs() {
        sentence("SIGN one of < <= = >= >.");
        String[] signs = {"<", "<=", "=", ">=", ">"};
        for (int i = 0; i < signs.length; i++) {
            int under = i < 2 ? 5 : 6;
            int same = i == 1 || i == 2 || i == 3 ? 5 : 6;
            int above = i > 2 ? 5 : 6;
            bids("bid 5 if 6" + signs[i] + "7;bid 6", under);
            bids("bid 5 if 7" + signs[i] + "7;bid 6", same);
            bids("bid 5 if 8" + signs[i] + "7;bid 6", above);
            bids("bid 5 if not 6 " + signs[i] + " 7;bid 6", 11 - under);
            bids("bid 5 if not 7 " + signs[i] + " 7;bid 6", 11 - same);
            bids("bid 5 if not 8 " + signs[i] + " 7;bid 6", 11 - above);
            bids("bid 5 if 6" + signs[i] + "7 and 1=1;bid 6", under);
            bids("bid 5 if 1=1 and 7" + signs[i] + "7;bid 6", same);
            bids("bid 5 if 8" + signs[i] + "7 and 1=1;bid 6", above);
        }
        for (String no : new String[] {"=<", "=>", "==", "<<", ">>", "<>", "><", "< =", "> ="}) {
            ruleFault("bid 5 if 7" + no + "7", 9 + no.length(), 0);
        }
        ruleFault("bid 5 if 7<==7", 12, 0);
        ruleFault("bid 5 if 7>=>7", 12, 0);
        ruleFault("bid 5 if 7!=7", 10, 0);
        ruleFault("bid 5 if 7 7", 11, 0);
        ruleFault("bid 5 if 7", 10, 0);
        ruleFault("bid 5 if 7<", 11, 0);
        ruleFault("bid 5 if <7", 9, 0);
        ruleFault("bid 5 if 6<7<8", 12, 0);
        sentence("TEST: PART { or PART }. PART: FACT { and FACT }.");
        bids("bid 5 if 1=1 or 1=1 and 1=2;bid 6", 5);
        bids("bid 5 if [1=1 or 1=1] and 1=2;bid 6", 6);
        bids("bid 5 if 1=2 and 1=2 or 1=1;bid 6", 5);
        bids("bid 5 if 1=2 and [1=2 or 1=1];bid 6", 6);
        bids("bid 5 if not 1=1 or 1=1;bid 6", 5);
        bids("bid 5 if not 1=2 and 1=2;bid 6", 6);
        bids("bid 5 if not [1=1 or 1=1];bid 6", 6);
        bids("bid 5 if 1=2" + times(" or 1=2", 13) + " or 1=1;bid 6", 5);
        bids("bid 5 if 1=1" + times(" and 1=1", 13) + " and 1=2;bid 6", 6);
        ruleFault("bid 5 if 1=1 and", 16, 0);
        ruleFault("bid 5 if 1=1 or", 15, 0);
        ruleFault("bid 5 if and 1=1", 9, 0);
        ruleFault("bid 5 if 1=1 and or 1=1", 17, 0);
        ruleFault("bid 5 if 1=1 1=1", 13, 0);
        ruleFault("bid 5 if 1=1 if 1=1", 13, 0);
    }

    private static void sums() {
        sentence("SUM: TERM { (+ or -) TERM }. TERM: VALUE { (* or / or %) VALUE }.");
        bids("bid 1+2*3", 7);
        bids("bid 2*3+1", 7);
        bids("bid 20-3-4", 13);
        bids("bid 20-3+4", 21);
        bids("bid 100/7/2", 7);
        bids("bid 100%7*3", 6);
        bids("bid 3*100%7", 6);
        bids("bid 7*5/2", 17);
        bids("bid 7/2*5", 15);
        bids("bid 40-10/4*2", 36);
        bids("bid 40-10%4*2+1", 37);
        bids("bid 1*2*3*4*5+6-7", 119);
        for (String no : new String[] {"++", "+-", "*/", "**", "%+"}) {
            ruleFault("bid 1" + no + "1", 6, 0);
        }
        ruleFault("bid +1", 4, 0);
        ruleFault("bid 1+", 6, 0);
        ruleFault("bid 1*;bid 1", 6, 0);
        sentence("FACT: not FACT | [ TEST ] (these brackets are signs) | SUM SIGN SUM,");
        bids("bid 5 if 1+2*3=8-1;bid 6", 5);
        bids("bid 5 if 3+4<4*2 and 9%5>=2+2;bid 6", 5);
        bids("bid 5 if not not 1=1;bid 6", 5);
        bids("bid 5 if not not not 1=1;bid 6", 6);
        bids("bid 5 if [[1=1]];bid 6", 5);
        bids("bid 5 if [not [1=1]];bid 6", 6);
        bids("bid 5 if not [not [1=2] and 1=1];bid 6", 6);
        for (char no : new char[] {'(', ')', '{', '}', '!', '&', '|'}) {
            ruleFault("bid 5 if " + no + "1=1", 9, 0);
        }
        ruleFault("bid 5 if not", 12, 0);
        ruleFault("bid 5 if [1]", 11, 0);
        ruleFault("bid 5 if 1", 10, 0);
        ruleFault("bid 5 if 1+1", 12, 0);
        ruleFault("bid 5 if [1=1", 13, 0);
        ruleFault("bid 5 if [1=1]]", 14, 0);
        ruleFault("bid 5 if 1=[1]", 11, 0);
    }

    private static void blanks() {
        sentence("Blanks (32) stand between as one likes.");
        bids("  bid   5   +  1   if   not   [   1   <   2   ]   or   3   >=   3  ;   bid   9   ", 6);
        bids("bid5+1if not[1<2]or3>=3;bid9", 6);
        for (int other : new int[] {0, 9, 10, 13, 31, 33, 160, 255}) {
            ruleFault("bid" + (char) other + "5", 3, 0);
            ruleFault("bid 5" + (char) other, 5, 0);
            ruleFault((char) other + "bid 5", 0, 0);
        }
        ruleFault("b id 5", 0, 0);
        ruleFault("bid hi gh", 4, 0);
    }

    private static void depth() {
        sentence("[ and not lie within one another 10 deep at most;");
        ruleStands("bid 1 if " + times("[", 10) + "1=1" + times("]", 10));
        ruleStands("bid 1 if " + times("not ", 10) + "1=1");
        ruleStands("bid 1 if " + times("not[", 5) + "1=1" + times("]", 5));
        ruleStands("bid 1 if " + times("[not ", 5) + "1=1" + times("]", 5));
        String deep = times("[", 10) + "1=1" + times("]", 10);
        ruleStands("bid 1 if " + deep + " and " + deep + " or " + deep + ";bid 1 if " + deep);
        ruleStands("bid 1 if " + times("not ", 10) + "1=1 and " + times("not ", 10) + "1=1");
        ruleStands("bid 1 if [" + times("not ", 9) + "1=1 or " + times("not ", 9) + "1=1]");
        bids("bid 5 if " + times("not ", 10) + "1=1;bid 6", 5);
        bids("bid 5 if " + times("not ", 9) + "1=1;bid 6", 6);
        sentence("2 too deep (at the sign that opens, or the word not);");
        ruleFault("bid 1 if " + times("[", 11) + "1=1" + times("]", 11), 19, 2);
        ruleFault("bid 1 if " + times("[", 11), 19, 2);
        ruleFault("bid 1 if " + times("not ", 11) + "1=1", 49, 2);
        ruleFault("bid 1 if " + times("not ", 11), 49, 2);
        ruleFault("bid 1 if " + times("[", 10) + "   not", 22, 2);
        ruleFault("bid 1 if " + times("not ", 10) + "  [", 51, 2);
        ruleFault("bid 1 if " + times("not[", 5) + "[", 29, 2);
        ruleFault("bid 1 if [" + times("not ", 9) + "1=1 or " + times("not ", 10) + "1=1]", 10 + 36 + 7 + 36, 2);
        ruleFault("bid 1 if " + deep + " and " + times("[", 11), 9 + 23 + 5 + 10, 2);
        ruleFault("bid 1 if " + times("[", 391), 19, 2);
        ruleFault("bid 1 if " + times("[", 10) + "]", 19, 0);
        ruleFault("bid 1 if " + times("[", 10) + "1=1" + times("]", 9), 31, 0);
        ruleFault("bid 1 if " + times("[", 10) + "1=1" + times("]", 11), 32, 0);
    }

    private static void parts() {
        sentence("at most 60 VALUES (of SUMS) and FACTS made of a SIGN, together.");
        ruleStands("bid 1" + times("+1", 59));
        ruleStands("bid 1" + times("*day", 59));
        ruleStands("bid 1" + times("+1", 56) + " if 1=1");
        ruleStands("bid 1+1+1 if 1=1" + times(" and 1=1", 18));
        ruleStands("bid 1+1+1+1+1" + times(";bid 1+1+1+1+1", 11));
        ruleStands("bid 1+1 if 1=1" + times(";bid 1+1 if 1=1", 11));
        ruleStands("bid 1" + times("+1", 56) + " if not [not [[1=1]]]");
        bids("bid 1" + times("+1", 59), 60);
        bids("bid 1" + times("+1", 56) + " if 1=1", 57);
        ThroneSale x = new ThroneSale();
        for (int rule = 0; rule < 6; rule++) {
            due("60 of each rule by itself", tellRule(x, "bid 1" + times("+1", 59)), rule);
        }
        sentence("3 one VALUE or FACT too many (at its first byte; of a FACT at its SIGN);");
        ruleFault("bid 1" + times("+1", 60), 4 + 120, 3);
        ruleFault("bid 1" + times("+1", 59) + "+  99999", 4 + 122, 3);
        ruleFault("bid 1" + times("+1", 59) + "+treasury", 4 + 120, 3);
        ruleFault("bid 1" + times("+1", 59) + " if 1=1", 4 + 119 + 4, 3);
        ruleFault("bid 1" + times("+1", 58) + " if 12  >= 1", 4 + 117 + 8, 3);
        ruleFault("bid 1" + times("+1", 57) + " if 1= 1", 4 + 115 + 7, 3);
        ruleFault("bid 1+1+1 if 1=1" + times(" and 1=1", 18) + " and 1=1", 16 + 18 * 8 + 5, 3);
        ruleFault("bid 1+1+1+1+1" + times(";bid 1+1+1+1+1", 11) + " if 1=1", 13 + 11 * 14 + 4, 3);
        ruleFault("bid 1+1+1+1+1" + times(";bid 1+1+1+1+1", 10) + ";bid 1+1+1+1+1+1", 13 + 11 * 14 + 1, 3);
        ruleFault("bid 1" + times("+1", 59) + ";bid 1", 4 + 119 + 5, 3);
        ruleFault("bid 1" + times("+1", 190), 4 + 120, 3);
    }

    private static void strayBytes() {
        sentence("0 a byte or WORD that can't stand there, or the end (behind the last byte);");
        ruleFault("", 0, 0);
        ruleFault("   ", 3, 0);
        ruleFault("bi", 0, 0);
        ruleFault("bid", 3, 0);
        ruleFault("bid ", 4, 0);
        ruleFault("bid 1;", 6, 0);
        ruleFault("bid 1 if", 8, 0);
        ruleFault("bid 1 if [1=1", 13, 0);
        ruleFault("bid 1 if 1=1]", 12, 0);
        ruleFault("bid 1 if []", 10, 0);
        ruleFault("bid [1]", 4, 0);
        ruleFault("bid 1 if [1+1]=2", 13, 0);
        for (int sign = 0; sign < 256; sign++) {
            if (sign != ' ' && (sign < '0' || sign > '9')) {
                ruleFault("bid 1" + (char) sign, ";+-*/%".indexOf(sign) >= 0 ? 6 : 5, 0);
                ruleFault("bid " + (char) sign + "1", 4, 0);
                ruleFault("bid 1+" + (char) sign + " 1", 6, 0);
            }
            boolean isSign = sign == '<' || sign == '=' || sign == '>';
            boolean isSum = "+-*/%0123456789".indexOf(sign) >= 0;
            if (isSign) {
                ruleStands("bid 1 if 1" + (char) sign + "2");
            } else {
                ruleFault("bid 1 if 1" + (char) sign + "2", isSum ? 12 : sign == ' ' ? 11 : 10, 0);
            }
        }
        sentence("1 a NUMBER of more digits, or not as told");
        ruleFault("bid 123456", 4, 1);
        ruleFault("bid 1+000000", 6, 1);
        ruleFault("bid 1 if high=  123456", 16, 1);
        ruleFault("bid 1;bid 1 if 1<2 and 123456", 23, 1);
        ruleStands("bid 99999");
    }

    private static void firstFault() {
        sentence("FAULTS, the first along the text, 1 + 8 * its place and:");
        due("place 0", tellRule(new ThroneSale(), ""), -3);
        due("place 1", tellRule(new ThroneSale(), " x"), -11);
        due("place 400", tellRule(new ThroneSale(), filled("bid", 400)), -2 - 1 - 3200);
        ruleFault("bid 123456 if " + times("[", 11), 4, 1);
        ruleFault("bid 12345 if " + times("[", 11) + "123456", 23, 2);
        ruleFault("bid x 123456", 4, 0);
        ruleFault("bid 1" + times("+1", 59) + " 123456", 124, 0);
        sentence("Of one place the least.");
        ruleFault("bid 1" + times("+1", 59) + "+123456", 124, 1);
        ruleFault("bid 1" + times("+1", 59) + "+out1", 124, 3);
        ruleFault("bid 1" + times("+1", 59) + "+outer", 124, 0);
        ruleFault("bid 1" + times("+1", 59) + "+]", 124, 0);
        ruleFault("bid 1" + times("+1", 58) + " if 1;", 4 + 117 + 5, 0);
        ruleFault("bid 1" + times(";bid 1", 11) + ";bidx 1", 72, 0);
        ruleFault("bid 1" + times(";bid 1", 11) + ";7", 72, 0);
        ruleFault("bid 1 if " + times("not ", 10) + "nots", 49, 0);
        ruleFault("bid 1 if " + times("not ", 10) + "123456", 49, 1);
    }

    public static void main(String[] args) {
        open();
        clauses();
        numbers();
        words();
        wordsOfSale();
        division();
        wrapAround();
        signs();
        sums();
        blanks();
        depth();
        parts();
        strayBytes();
        firstFault();
        close();
    }
}
