/** At least one run of calls for each promise of the document: ordinary inputs, edges, wrong inputs. */
public final class PromiseTest {
    private static final int NONE = ThroneSale.NONE;
    /** Men 10 and 5; the first BIDDER wins for 15; GENERALS come on DAYS 4 and 10. */
    private static final String ROME = "empire 100 5;guard 10 50 2;guard 5 100 0;bidder 40 20;bidder 20 12;"
            + "general 1 8 60;general 2 20 30;road 0 1 2;road 1 2 3";

    private static int wrong = 0;
    private static int promise = 0;

    private static void due(String what, long got, long want) {
        if (got != want) {
            wrong++;
            System.out.println("promise " + promise + ": " + what + " answered " + got + ", due is " + want);
        }
    }

    private static void feed(ThroneSale x, String text) {
        int[] fours = new int[(text.length() + 19) / 20 * 5];
        for (int i = 0; i < text.length(); i++) {
            fours[i / 4] |= text.charAt(i) << 24 - i % 4 * 8;
        }
        for (int i = 0; i < fours.length; i += 5) {
            x.feed(fours[i], fours[i + 1], fours[i + 2], fours[i + 3], fours[i + 4]);
        }
        x.end(text.length());
    }

    private static int tell(ThroneSale x, String text) {
        feed(x, text);
        return x.empire();
    }

    private static int tellRule(ThroneSale x, String text) {
        feed(x, text);
        return x.rule();
    }

    private static ThroneSale told(String text) {
        ThroneSale x = new ThroneSale();
        due("empire of " + text, tell(x, text) >= 0 ? 1 : 0, 1);
        return x;
    }

    private static ThroneSale sold(String text) {
        ThroneSale x = told(text);
        due("sell of " + text, x.sell() >= 0 ? 1 : 0, 1);
        return x;
    }

    private static void days(ThroneSale x, int n) {
        for (int i = 0; i < n; i++) {
            x.day();
        }
    }

    /** The answer for a FAULT of this kind at this place. */
    private static int fault(int place, int kind) {
        return -2 - (1 + 8 * place + kind);
    }

    private static void empireFault(String text, int place, int kind) {
        ThroneSale x = told(ROME);
        due("empire \"" + text + "\"", tell(x, text), fault(place, kind));
        due("tape behind it", x.count(17), 0);
        due("bands behind it", x.count(2), 2);
    }

    private static void ruleFault(String text, int place, int kind) {
        ThroneSale x = new ThroneSale();
        due("rule \"" + text + "\"", tellRule(x, text), fault(place, kind));
        due("tape behind it", x.count(17), 0);
        due("rules behind it", x.count(6), 0);
    }

    /** What a sole BIDDER would pay by a RULE of this SUM and TEST; 0: the bid is not taken. */
    private static void bids(String rule, int want) {
        ThroneSale x = told("empire 70 1;guard 6 0 0;guard 4 0 0;bidder 30 20");
        due("rule \"" + rule + "\"", tellRule(x, rule), 0);
        x.force(0);
        due("price by \"" + rule + "\"", x.sale(1), want);
    }

    private static String times(String part, int n) {
        return part.repeat(n);
    }

    private static void newObject() {
        ThroneSale x = new ThroneSale();
        int[] counts = {0, 0, 0, 0, 0, 0, 0, NONE, 0, NONE, 0, 0, 100, NONE, 0, 0, 0, 0};
        for (int what = 0; what < counts.length; what++) {
            due("count " + what, x.count(what), counts[what]);
        }
    }

    private static void feeds() {
        ThroneSale x = new ThroneSale();
        due("feed", x.feed(0x656d7069, 0x72652031, 0x32203300, 0, 0), 20);
        x.end(11);
        due("highest byte first", x.empire(), 0);
        due("treasury", x.count(0), 12);
        due("jump", x.count(1), 3);
        for (int i = 1; i <= 20; i++) {
            due("feed " + i, x.feed(-1, i, 3, 4, 5), 20 * i);
        }
        due("too much", x.feed(0, 0, 0, 0, 0), NONE);
        due("tape", x.count(17), 400);
        x.end(381);
        due("one too much", x.feed(0, 0, 0, 0, 0), NONE);
        x.end(380);
        due("just as much", x.feed(0, 0, 0, 0, 0), 400);
    }

    private static void ends() {
        ThroneSale x = new ThroneSale();
        due("nothing", x.end(0), 0);
        due("none there", x.end(1), NONE);
        x.feed(1, 2, 3, 4, 5);
        due("below 0", x.end(-1), NONE);
        due("too many", x.end(21), NONE);
        due("tape", x.count(17), 20);
        due("all", x.end(20), 20);
        due("some", x.end(7), 7);
        due("more again", x.end(8), NONE);
        due("behind these", x.feed(1, 2, 3, 4, 5), 27);
    }

    private static void empires() {
        ThroneSale x = told(ROME);
        tellRule(x, "bid 7");
        x.force(0);
        x.seed(77);
        x.image(2);
        x.sell();
        x.log(0, 0);
        x.day();
        x.thin();
        due("bands", tell(x, "  empire   9999 9 ; guard 30 100 60;guard1 0 0;guard 00002 5 5;bidder 9999 99"
                + ";general 7 200 999;road 7 0 30  "), 3);
        int[] counts = {9999, 9, 3, 1, 1, 1, 1, 0, 0, NONE, 33, 0, 100, NONE, 0, 0, 77, 0};
        for (int what = 0; what < counts.length; what++) {
            due("count " + what, x.count(what), counts[what]);
        }
        due("image is there", x.back(2), 0);
        due("of the former", x.count(0), 100);
        empireFault("", 0, 0);
        empireFault("   ", 3, 0);
        empireFault("Empire 1 1", 0, 0);
        empireFault("empires 1 1", 0, 0);
        empireFault("bid 1 1", 0, 0);
        empireFault("guard 1 1 1", 0, 4);
        empireFault("empire 1", 8, 0);
        empireFault("empire 1 ;", 9, 0);
        empireFault("empire 1 -1", 9, 0);
        empireFault("empire 1 0", 9, 1);
        empireFault("empire 1 10", 9, 1);
        empireFault("empire 10000 10", 7, 1);
        empireFault("empire 000001 1", 7, 1);
        empireFault("empire 1 1 1", 11, 0);
        empireFault("empire 1 1;", 11, 0);
        empireFault("empire 1 1; ;", 12, 0);
        empireFault("empire 1 1\0", 10, 0);
        empireFault("empire 1 1\u00e9", 10, 0);
        empireFault("empire 1 1;empire 1 1", 11, 4);
        empireFault("empire 1 1;guard 0 0 0", 17, 1);
        empireFault("empire 1 1;guard 1 101 61", 19, 1);
        empireFault("empire 1 1;guard 1 1", 20, 0);
        empireFault("empire 1 1;bidder 10000 0", 18, 1);
        empireFault("empire 1 1;general 7 0 0", 21, 1);
        empireFault("empire 1 1;road 8 1 1", 16, 1);
        empireFault("empire 1 1;road 7 7 0", 18, 1);
        empireFault("empire 1 1;road 7 6 0", 20, 1);
        empireFault("empire 1 1" + times(";guard 1 1 1", 7), 11 + 6 * 12, 4);
        empireFault("empire 1 1" + times(";bidder 1 1", 5), 11 + 4 * 11, 4);
        empireFault("empire 1 1" + times(";general 1 1 1", 5), 11 + 4 * 14, 4);
        empireFault("empire 1 1" + times(";road 1 2 3", 8) + ";  road", 11 + 8 * 11 + 2, 4);
        empireFault("empire 1 1" + times(";guard 1 1 1", 6) + ";guards 1 1 1", 11 + 6 * 12, 0);
        due("six bands", told("empire 1 1" + times(";guard 1 1 1", 6)).count(2), 6);
        due("eight roads", told("empire 1 1" + times(";road 1 2 3", 8)).count(5), 8);
        due("full tape", tell(x, "empire 1 1" + times(" ", 390)), 0);
    }

    private static void rules() {
        ThroneSale x = new ThroneSale();
        for (int i = 0; i < 6; i++) {
            due("fault between", tellRule(x, "bid"), fault(3, 0));
            due("rule", tellRule(x, "bid 1"), i);
        }
        due("seventh", tellRule(x, "bid 1"), NONE);
        due("its tape", x.count(17), 5);
        due("rules", x.count(6), 6);
        ruleFault("", 0, 0);
        ruleFault("bud 1", 0, 0);
        ruleFault("bid if", 4, 0);
        ruleFault("bid 1;", 6, 0);
        ruleFault("bid 1 1", 6, 0);
        ruleFault("bid 123456", 4, 1);
        ruleFault("bid 1 123456", 6, 0);
        ruleFault("bid -1", 4, 0);
        ruleFault("bid 1++1", 6, 0);
        ruleFault("bid [1]", 4, 0);
        ruleFault("bid highest", 4, 0);
        ruleFault("bid 1 if 1", 10, 0);
        ruleFault("bid 1 if 1 < = 2", 13, 0);
        ruleFault("bid 1 if 1 == 2", 12, 0);
        ruleFault("bid 1 if 1<2<3", 12, 0);
        ruleFault("bid 1 if 1<2 not 1<2", 13, 0);
        ruleFault("bid 1 if [1<2", 13, 0);
        ruleFault("bid 1 if 1<2]", 12, 0);
        ruleFault("bid 1 if [1+2]*3=9", 13, 0);
        ruleFault("bid 1 if 1<2 andy 1<2", 13, 0);
        ruleFault("bid 1 if 1<2 and", 16, 0);
        ruleFault("bid 1 if " + times("[", 11), 19, 2);
        ruleFault("bid 1 if " + times("not ", 11), 49, 2);
        ruleFault("bid 1 if " + times("[not ", 5) + "  [", 36, 2);
        ruleFault("bid 1 if " + times("not ", 10) + "notch", 49, 0);
        ruleFault("bid 1" + times("+1", 60), 124, 3);
        ruleFault("bid 1" + times("+1", 59) + "+high", 124, 3);
        ruleFault("bid 1" + times("+1", 59) + "+123456", 124, 1);
        ruleFault("bid 1" + times("+1", 59) + "+higher", 124, 0);
        ruleFault("bid 1" + times("+1", 58) + " if 1 <2", 4 + 117 + 6, 3);
        ruleFault("bid 1" + times("+1", 57) + " if 1<2", 4 + 115 + 6, 3);
        ruleFault("bid 1" + times(";bid 1", 12), 72, 4);
        ruleFault("bid 1" + times(";bid 1", 11) + "; bidd 1", 73, 0);
        ThroneSale y = new ThroneSale();
        due("60 parts", tellRule(y, "bid 1" + times("+1", 56) + " if 1<2"), 0);
        due("12 clauses", tellRule(y, "bid1" + times(";bid1", 11)), 1);
        due("10 deep, twice", tellRule(y, "bid 1 if " + times("[not ", 5) + "1=1" + times("]", 5)
                + " or " + times("not ", 10) + "1>=1"), 2);
    }

    private static void ruleMeanings() {
        bids("bid 1 + 2 * 3", 7);
        bids("bid 20 - 3 - 4", 13);
        bids("bid 100 / 7 / 2", 7);
        bids("bid 100 % 7 * 3", 6);
        bids("bid 3 - 10 / 4 * 2", 0);
        bids("bid 50 + holder / 2", 50);
        bids("bid 50 - 7 * holder / 2", 53);
        bids("bid 50 + 7 * holder % 4", 47);
        bids("bid 5 + 7 / 0 + 7 % 0", 5);
        bids("bid purse*100+dare", 0);
        bids("bid purse+dare+men+treasury", 130);
        bids("bid bidder+high+turn+out+day+jump", 1);
        bids("bid 1000", 0);
        bids("bid 999", 999);
        bids("bid 1000 - 1000", 0);
        bids("bid 99999*99999*99999*99999-99999*99999*99999*99999+3", 3);
        bids("bid 5 if 1<1;bid 6 if 1<=1;bid 7", 6);
        bids("bid 5 if 2=1;bid 6 if 1>1;bid 7 if 1>=2", 0);
        bids("bid 5 if 1=1 or 1=1 and 1=2;bid 6", 5);
        bids("bid 5 if not 1=2 and 1=2;bid 6", 6);
        bids("bid 5 if not [1=2 and 1=2];bid 6", 5);
        bids("bid 5 if not not 1=2 or [1=2 or 2=2] and 1=1;bid 6", 5);
        bids("bid5if1<2and2>1;bid6", 5);
        bids("bid 8;bid 9", 8);
        String[] signs = {"<", "<=", "=", ">=", ">"};
        int[][] want = {{1, 0, 0}, {1, 1, 0}, {0, 1, 0}, {0, 1, 1}, {0, 0, 1}};
        for (int i = 0; i < signs.length; i++) {
            for (int a = 1; a <= 3; a++) {
                String fact = a + signs[i] + "2";
                bids("bid 7 if " + fact + ";bid 8", want[i][a - 1] == 1 ? 7 : 8);
                bids("bid 7 if not " + fact + ";bid 8", want[i][a - 1] == 1 ? 8 : 7);
                bids("bid 7 if " + fact + " and 0=0;bid 8", want[i][a - 1] == 1 ? 7 : 8);
                bids("bid 7 if 0<1 and " + fact + " and 1>0;bid 8", want[i][a - 1] == 1 ? 7 : 8);
                bids("bid 7 if 0=1 or " + fact + ";bid 8", want[i][a - 1] == 1 ? 7 : 8);
            }
        }
    }

    private static void forces() {
        ThroneSale x = told("empire 0 1;bidder 0 50");
        due("no rule", x.force(0), -2);
        tellRule(x, "bid 10");
        tellRule(x, "bid 20");
        due("was none", x.force(1), NONE);
        due("price", x.sale(1), 20);
        due("was 1", x.force(0), 1);
        due("price", x.sale(1), 10);
        due("too high", x.force(2), -2);
        due("too low", x.force(-2), -2);
        due("stays", x.count(7), 0);
        due("was 0", x.force(NONE), 0);
        due("price", x.sale(1), 1);
    }

    private static void bands() {
        ThroneSale x = sold(ROME);
        int[][] want = {{10, 50, 2, 0}, {5, 100, 0, 0}};
        for (int b = 0; b < 2; b++) {
            for (int what = 0; what < 4; what++) {
                due("band " + b + " " + what, x.band(b, what), want[b][what]);
            }
        }
        x.day();
        due("on the day itself", x.band(1, 3), 0);
        x.day();
        due("impatient", x.band(1, 3), 1);
        x.day();
        due("patient", x.band(0, 3), 0);
        x.day();
        due("patient no more", x.band(0, 3), 1);
        due("other", x.band(0, 4), NONE);
        due("below", x.band(0, -1), NONE);
        due("no band", x.band(2, 0), NONE);
        due("no band", x.band(-1, 0), NONE);
    }

    private static void bidders() {
        ThroneSale x = told(ROME);
        due("purse", x.bidder(1, 0), 20);
        due("dare", x.bidder(1, 1), 12);
        due("reigns", x.bidder(0, 2), 0);
        x.sell();
        due("reigns", x.bidder(0, 2), 1);
        due("reigns not", x.bidder(1, 2), 0);
        due("other", x.bidder(0, 3), NONE);
        due("below", x.bidder(0, -1), NONE);
        due("no bidder", x.bidder(2, 0), NONE);
        due("no bidder", x.bidder(-1, 0), NONE);
        ThroneSale y = sold("empire 7 9;guard 5 0 0;bidder 9 9");
        y.day();
        y.day();
        due("treasury first, then the purse", y.bidder(0, 0), 6);
        due("treasury", y.count(0), 0);
        y.day();
        due("purse alone", y.bidder(0, 0), 1);
        y.day();
        due("too little: nobody gets any", y.bidder(0, 0), 1);
        y.kill();
        due("killed", y.bidder(0, 0), 0);
    }

    private static void generals() {
        ThroneSale x = told(ROME + ";general 5 1 0;general 0 16 7");
        due("city", x.general(1, 0), 2);
        due("men", x.general(1, 1), 20);
        due("price", x.general(1, 2), 30);
        due("not sold", x.general(1, 5), NONE);
        x.day();
        x.day();
        x.sell();
        due("comes", x.general(0, 5), 6);
        due("comes", x.general(1, 5), 12);
        due("never", x.general(2, 5), NONE);
        due("on the day of the sale", x.general(3, 5), 2);
        due("bribed", x.general(1, 3), 0);
        x.bribe(1);
        due("bribed", x.general(1, 3), 1);
        due("beaten", x.general(0, 4), 0);
        days(x, 5);
        due("he reigns", x.count(9), 13);
        due("less men", x.general(0, 4), 1);
        due("other", x.general(0, 6), -2);
        due("below", x.general(0, -1), -2);
        due("no general", x.general(4, 0), -2);
        due("no general", x.general(-1, 0), -2);
    }

    private static void dayPays() {
        ThroneSale x = sold("empire 100 3;guard 4 100 0;bidder 0 3");
        for (int i = 1; i <= 2; i++) {
            due("day", x.day(), 0);
            due("paid", x.count(11), 100 * i);
            due("treasury", x.count(0), 100 - 4 * i);
        }
        due("they left on DAY 1, as 200 is less than 300", x.count(10), 0);
        x.day();
        due("nobody to be paid", x.count(11), 200);
        due("no coins", x.count(0), 92);
        ThroneSale y = sold("empire 100 3;guard 4 100 2;bidder 0 3");
        days(y, 9);
        due("paid enough", y.count(11), 300);
        due("no more coins", y.count(0), 88);
        due("nobody left", y.count(10), 4);
        ThroneSale z = sold("empire 100 3;guard 4 33 1;bidder 0 3");
        z.thin();
        z.thin();
        z.thin();
        z.thin();
        z.thin();
        z.thin();
        z.day();
        due("thin pay", z.count(11), 40);
        z.day();
        due("two days", z.count(11), 80);
        due("patience holds", z.count(10), 4);
        z.day();
        due("120 is more than 99", z.count(10), 4);
        ThroneSale v = sold("empire 3 3;guard 4 33 1;bidder 0 3");
        days(v, 2);
        due("none paid", v.count(11), 0);
        due("stays on the first day", v.band(0, 3), 0);
        v.day();
        due("leaves on the second", v.band(0, 3), 1);
        ThroneSale w = sold("empire 3 3;guard 4 0 0;bidder 0 3");
        days(w, 9);
        due("least 0 never leaves", w.band(0, 3), 0);
    }

    private static void dayComes() {
        ThroneSale x = sold("empire 0 1;guard 10 0 0;bidder 0 1;general 1 10 0;general 2 11 0;road 0 1 1;road 0 2 2");
        days(x, 2);
        due("not there yet", x.general(0, 4), 0);
        x.day();
        due("as many are beaten", x.general(0, 4), 1);
        x.day();
        due("still", x.count(9), 0);
        due("more reign", x.day(), 11);
        due("bands left", x.count(10), 0);
        due("day", x.count(8), 5);
        // On one DAY the first by numbers meets the guards, the next one him.
        ThroneSale y = sold("empire 0 1;guard 10 0 0;bidder 0 1;general 0 12 0;general 0 11 0;general 0 13 0");
        due("the last of the day", y.day(), 12);
        due("who lost the throne is not beaten", y.general(0, 4), 0);
        due("who came against more is", y.general(1, 4), 1);
        ThroneSale z = sold("empire 0 1;guard 30 0 0;bidder 0 1;general 1 1 0;road 0 1 2");
        z.kill();
        days(z, 4);
        due("nobody", z.count(9), NONE);
        due("comes for the sale still", z.day(), 10);
        z.kill();
        due("beaten", z.general(0, 4), 1);
        due("next sale", z.sell(), 0);
        days(z, 9);
        due("is not there again", z.count(9), 0);
        ThroneSale w = told("empire 5 1;guard 5 0 0;bidder 5 0;general 0 5 0");
        due("without a sale nobody comes", w.day(), NONE);
        due("and nobody is paid", w.count(0), 5);
        ThroneSale v = new ThroneSale();
        due("no empire", v.day(), -2);
        tell(v, "empire 1 1");
        for (int i = 0; i < 450; i++) {
            due("day", v.day(), NONE);
        }
        due("day 450", v.count(8), 450);
    }

    private static void dayLast() {
        ThroneSale x = sold("empire 0 1;bidder 0 1;general 7 3 0;road 0 7 30");
        for (int i = 0; i < 500; i++) {
            x.day();
        }
        x.image(0);
        due("day 500", x.count(8), 500);
        // Behind 512 calls answers are free; this class goes on, so that the last DAY can be looked at.
        for (int i = 500; i < 999; i++) {
            x.day();
        }
        due("day 999", x.count(8), 999);
        due("no more", x.day(), -2);
        due("stays", x.count(8), 999);
        due("but ahead", x.ahead(200, 0), 10);
    }

    private static void sells() {
        ThroneSale x = told(ROME);
        x.day();
        due("sell", x.sell(), 0);
        due("sold", x.count(13), 1);
        due("reigns", x.count(9), 0);
        due("again", x.sell(), -2);
        days(x, 2);
        due("paid", x.count(11), 200);
        x.kill();
        due("paid stays", x.count(11), 200);
        due("sold stays", x.count(13), 1);
        due("sell", x.sell(), 0);
        due("paid anew", x.count(11), 0);
        due("sold anew", x.count(13), 3);
        due("who left has left", x.count(10), 10);
        ThroneSale y = told("empire 1 5;bidder 9 4;bidder 9 3");
        due("nobody", y.sell(), NONE);
        due("no act", y.count(15), 0);
        due("not sold", y.count(13), NONE);
        due("no bidders", told("empire 1 5").sell(), NONE);
        due("no empire", new ThroneSale().sell(), -2);
        ThroneSale z = told(ROME);
        tellRule(z, "bid 9*bidder");
        z.force(0);
        due("by the rule", z.sell(), 1);
    }

    private static void bribesOne() {
        ThroneSale x = sold(ROME);
        due("below", x.bribe(-1), NONE);
        due("no general", x.bribe(2), NONE);
        due("bribe", x.bribe(0), 40);
        due("again", x.bribe(0), NONE);
        due("exactly", x.bribe(1), 10);
        due("acts", x.count(15), 3);
        days(x, 20);
        due("nobody comes", x.count(9), 0);
        ThroneSale y = sold(ROME);
        days(y, 2);
        due("treasury", y.count(0), 70);
        y.day();
        due("just enough", y.bribe(0), 0);
        due("too dear", y.bribe(1), NONE);
        ThroneSale z = sold("empire 9 1;guard 5 0 0;bidder 0 1;general 0 6 1;general 0 6 1;general 0 5 1");
        z.day();
        due("he reigns", z.bribe(0), NONE);
        due("he is beaten", z.bribe(1), NONE);
        z.kill();
        due("still beaten", z.bribe(0), NONE);
        due("no empire", new ThroneSale().bribe(0), NONE);
    }

    private static void thins() {
        ThroneSale x = told("empire 9999 1");
        int[] want = {11110, 12498, 14283, 16663, 19995, 24993, 33324, 49986, 99972};
        for (int i = 0; i < 9; i++) {
            due("thin " + i, x.thin(), want[i]);
            due("fine", x.count(12), 90 - 10 * i);
        }
        due("thin enough", x.thin(), NONE);
        due("acts", x.count(15), 9);
        due("no empire", new ThroneSale().thin(), NONE);
    }

    private static void kills() {
        ThroneSale x = sold(ROME);
        due("bidder", x.kill(), 0);
        due("his purse", x.bidder(0, 0), 0);
        due("nobody", x.count(9), NONE);
        due("nobody to kill", x.kill(), NONE);
        due("acts", x.count(15), 2);
        days(x, 5);
        due("general", x.kill(), 10);
        due("beaten", x.general(0, 4), 1);
        due("no empire", new ThroneSale().kill(), NONE);
    }

    private static void undoes() {
        ThroneSale x = told(ROME);
        due("none", x.undo(), -2);
        x.sell();
        days(x, 2);
        x.bribe(0);
        due("bribe back", x.undo(), 3);
        due("treasury", x.count(0), 70);
        due("not bribed", x.general(0, 3), 0);
        due("day back", x.undo(), 2);
        due("band back", x.band(1, 3), 0);
        due("paid back", x.count(11), 100);
        due("treasury", x.count(0), 85);
        for (int i = 0; i < 25; i++) {
            x.day();
        }
        due("twenty at most", x.count(15), 20);
        for (int i = 19; i >= 0; i--) {
            due("undo", x.undo(), i);
            due("day", x.count(8), 6 + i);
        }
        due("no more", x.undo(), -2);
        due("day", x.count(8), 6);
        ThroneSale y = told(ROME);
        tellRule(y, "bid 5");
        y.thin();
        y.force(0);
        y.seed(9);
        y.log(3, 1);
        y.undo();
        due("rule in force stays", y.count(7), 0);
        due("x stays", y.count(16), 9);
        due("logs stay", y.count(14), 1);
        due("fine back", y.count(12), 100);
    }

    private static void sales() {
        ThroneSale x = told(ROME);
        due("who", x.sale(0), 0);
        due("how much", x.sale(1), 15);
        due("bids", x.sale(2), 4);
        x.sell();
        due("while one reigns", x.sale(1), 15);
        due("other", x.sale(3), -2);
        due("below", x.sale(-1), -2);
        due("no empire", new ThroneSale().sale(0), -2);
        ThroneSale y = told("empire 0 9;bidder 0 8;bidder 0 0");
        due("nobody", y.sale(0), NONE);
        due("for nothing", y.sale(1), 0);
        due("bids", y.sale(2), 2);
        ThroneSale z = told("empire 0 2;bidder 0 1;bidder 0 9;bidder 0 3;bidder 0 8");
        // 0 out; 1: 2; 2 out (4 > 3); 3: 4; 1: 6; 3: 8; 1 out (10 > 9)
        due("who", z.sale(0), 3);
        due("how much", z.sale(1), 8);
        due("bids", z.sale(2), 7);
        ThroneSale w = told("empire 5 3;guard 7 0 0;bidder 1 1;bidder 2 2;bidder 3 3");
        tellRule(w, "bid high+jump+turn if bidder<2 and turn<6;bid high+jump-1 if holder=1;bid high+jump");
        w.force(0);
        // 0: 3; 1: 7; 2 out (9); 0: 13; 1: 20; 0: 28; 1: 31; 0 out (33)
        due("who", w.sale(0), 1);
        due("how much", w.sale(1), 31);
        due("bids", w.sale(2), 8);
        ThroneSale u = told("empire 0 1;guard 2 0 0;bidder 0 0;bidder 0 0");
        tellRule(u, "bid 0 if bidder=0;bid day+10*out+100*men");
        u.force(0);
        days(u, 3);
        due("as it is on the day", u.sale(1), 213);
        ThroneSale v = told("empire 0 9;bidder 0 0;bidder 0 0");
        tellRule(v, "bid high+jump");
        v.force(0);
        due("999 at most", v.sale(1), 999);
        due("111 and one out", v.sale(2), 112);
        due("who", v.sale(0), 0);
    }

    private static void aheads() {
        ThroneSale x = sold(ROME);
        int[][] want = {{0, 15, 0, 100}, {0, 15, 100, 85}, {0, 10, 200, 70}, {0, 10, 300, 60}, {0, 0, 400, 50},
            {10, 0, 400, 50}};
        for (int n = 0; n < want.length; n++) {
            for (int what = 0; what < 4; what++) {
                due("ahead " + n + " " + what, x.ahead(n, what), want[n][what]);
            }
        }
        due("nothing changes", x.count(8), 0);
        due("far", x.ahead(200, 0), 11);
        due("too far", x.ahead(201, 0), -2);
        due("behind", x.ahead(-1, 0), -2);
        due("other", x.ahead(1, 4), -2);
        due("below", x.ahead(1, -1), -2);
        due("no empire", new ThroneSale().ahead(0, 0), -2);
        due("nobody", told(ROME).ahead(200, 0), NONE);
    }

    private static void falls() {
        ThroneSale x = sold(ROME);
        due("day", x.fall(0), 4);
        due("then", x.fall(1), 10);
        days(x, 5);
        due("day", x.fall(0), 10);
        due("then", x.fall(1), 11);
        days(x, 6);
        due("never", x.fall(0), -2);
        due("never", x.fall(1), -2);
        due("other", x.fall(2), -3);
        due("below", x.fall(-1), -3);
        x.kill();
        due("nobody", x.fall(0), -3);
        due("no empire", new ThroneSale().fall(0), -3);
        String far = "empire 0 1;bidder 0 1;general 4 1 0;road 0 1 30;road 1 2 30;road 2 3 30;road 3 4 ";
        due("day 198", sold(far + "9").fall(0), 198);
        due("day 200", sold(far + "10").fall(0), -2);
        ThroneSale y = sold(far + "10");
        y.day();
        due("day 200, a day later", y.fall(0), 200);
        ThroneSale z = sold("empire 0 1;guard 1 0 0;bidder 0 1;general 0 2 0;general 0 3 0");
        due("the last of the day", z.fall(1), 11);
    }

    private static void reignOne() {
        ThroneSale x = told(ROME);
        due("dare", x.reign(0, 0), 15);
        due("days", x.reign(0, 1), 4);
        due("dare", x.reign(1, 0), 20);
        due("other", x.reign(0, 2), NONE);
        due("below", x.reign(0, -1), NONE);
        due("no bidder", x.reign(2, 0), NONE);
        due("no bidder", x.reign(-1, 0), NONE);
        tellRule(x, "bid 1");
        x.force(0);
        due("without a rule", x.reign(0, 0), 15);
        x.force(NONE);
        x.sell();
        due("somebody reigns", x.reign(0, 0), NONE);
        due("no empire", new ThroneSale().reign(0, 0), NONE);
        ThroneSale y = told("empire 0 7;bidder 9 2;bidder 9 99");
        due("can't win", y.reign(0, 1), 0);
        due("least of all", y.reign(0, 0), 0);
        ThroneSale w = told("empire 30 1;guard 10 100 3;bidder 0 0;bidder 0 2;general 1 5 0;road 0 1 10");
        due("3 are as good as any more", w.reign(0, 0), 3);
        ThroneSale v = told("empire 9 1;bidder 0 0;bidder 0 9;bidder 0 0");
        due("of other prices the least, too", v.reign(0, 0), 9);
        due("as they move on", v.reign(2, 0), 10);
        due("alone", y.reign(1, 0), 7);
        due("for good", y.reign(1, 1), 200);
        // For 5 coins a head 50 are wanted by DAY 4, or a general finds nobody there on DAY 20.
        String rest = " 1;guard 10 100 3;bidder 0 0;bidder 0 5;general 1 5 0;road 0 1 10";
        due("too little", told("empire 49" + rest).reign(0, 1), 20);
        due("enough", told("empire 50" + rest).reign(0, 1), 200);
        due("dare", told("empire 49" + rest).reign(0, 0), 5);
        // Who dares more bids more (4 in place of 2), and the guards want more than there is.
        ThroneSale z = told("empire 20 2;guard 10 100 3;bidder 0 0;bidder 0 0;general 1 5 0;road 0 1 10");
        due("cheap", z.reign(1, 0), 2);
        due("for good", z.reign(1, 1), 200);
    }

    private static void bribeSets() {
        ThroneSale x = sold(ROME);
        due("set", x.bribes(0), 3);
        due("days", x.bribes(1), 200);
        days(x, 2);
        // 70 are there: the first alone is worth 8 DAYS more than none.
        due("set", x.bribes(0), 1);
        due("days", x.bribes(1), 8);
        due("other", x.bribes(2), NONE);
        due("below", x.bribes(-1), NONE);
        x.kill();
        due("nobody", x.bribes(0), NONE);
        due("no empire", new ThroneSale().bribes(0), NONE);
        ThroneSale y = sold("empire 9 1;guard 5 0 0;bidder 0 1;general 0 6 5;general 0 7 4;general 0 4 0");
        due("both", y.bribes(0), 3);
        ThroneSale z = sold("empire 8 1;guard 5 0 0;bidder 0 1;general 0 6 5;general 0 7 4;general 0 4 0");
        due("no use", z.bribes(0), 0);
        due("no days", z.bribes(1), 0);
        // What is paid for a bribe is not there for the guards.
        ThroneSale w = sold("empire 20 2;guard 10 100 1;bidder 0 2;general 1 5 10;general 1 9 0;road 0 1 1");
        due("none is best", w.bribes(0), 0);
        due("for good", w.bribes(1), 200);
        ThroneSale v = sold("empire 0 1;guard 5 0 0;bidder 0 1;general 0 9 0;general 1 9 0;general 1 10 0;road 0 1 9");
        v.day();
        due("a general's: the one with more men", v.bribes(0), 4);
    }

    private static void ways() {
        ThroneSale x = told("empire 0 1;road 0 3 4;road 3 2 4;road 0 1 5;road 1 2 3;road 0 2 9;road 2 4 1;road 0 2 8");
        due("days", x.way(0, 2, 0), 8);
        due("least next", x.way(0, 2, 1), 1);
        due("back", x.way(2, 0, 0), 8);
        due("least next", x.way(2, 0, 1), 0);
        due("days", x.way(4, 3, 0), 5);
        due("next", x.way(4, 3, 1), 2);
        due("there", x.way(5, 5, 0), 0);
        due("there", x.way(5, 5, 1), NONE);
        due("none", x.way(5, 0, 0), -2);
        due("none", x.way(0, 7, 1), -2);
        due("no city", x.way(8, 0, 0), -3);
        due("no city", x.way(0, -1, 0), -3);
        due("other", x.way(0, 1, 2), -3);
        due("below", x.way(0, 1, -1), -3);
        due("no empire", new ThroneSale().way(0, 0, 0), -3);
        due("long", told("empire 0 1;road 0 1 30;road 1 2 30;road 2 3 30;road 3 4 30;road 4 5 30;road 5 6 30"
                + ";road 6 7 30").way(7, 0, 0), 210);
    }

    private static void firsts() {
        ThroneSale x = told("empire 9 1;bidder 0 1;general 3 1 0;general 2 9 1;general 1 9 1;general 0 1 1"
                + ";road 0 1 4;road 0 2 4;road 1 2 1");
        due("who", x.first(0), 3);
        due("days", x.first(1), 0);
        x.bribe(3);
        due("least of several", x.first(0), 1);
        due("days", x.first(1), 8);
        x.sell();
        days(x, 9);
        due("who reigns", x.count(9), 11);
        due("not who reigns, nor who is beaten", x.first(0), -2);
        due("days", x.first(1), -2);
        due("other", x.first(2), -3);
        due("below", x.first(-1), -3);
        due("no empire", new ThroneSale().first(0), -3);
        due("no generals", told("empire 0 1").first(0), -2);
    }

    private static void restSets() {
        ThroneSale x = told(ROME);
        due("one", x.rests(0), 1);
        due("the second marches", x.rests(1), 2);
        x.bribe(1);
        due("one", x.rests(0), 1);
        due("nobody marches", x.rests(1), 0);
        due("other", x.rests(2), NONE);
        due("below", x.rests(-1), NONE);
        due("no empire", new ThroneSale().rests(0), NONE);
        // The first one holds it with 1 of 6, and the second takes that; behind him the first has nothing to gain.
        ThroneSale y = told("empire 0 1;guard 5 0 0;general 0 6 0;general 0 6 0");
        due("how many", y.rests(0), 1);
        due("the second alone", y.rests(1), 2);
        ThroneSale z = told("empire 0 1;guard 5 0 0;general 0 4 0;general 1 3 0;road 0 1 1");
        due("nobody marches", z.rests(1), 0);
        due("how many", z.rests(0), 1);
        ThroneSale w = told("empire 0 1;guard 10 0 0;general 1 13 0;general 0 12 0;general 0 3 0;road 0 1 1");
        // 1 holds with 2, 2 with 1 of these; 0, the last, has more than any: 0 alone, and nobody else.
        due("how many", w.rests(0), 1);
        due("the last one", w.rests(1), 1);
        ThroneSale u = told("empire 0 1;guard 5 0 0;general 0 5 0");
        due("with as many he doesn't hold it", u.rests(1), 0);
        ThroneSale t = told("empire 0 1;guard 1 0 0;general 0 5 0");
        due("all march", t.rests(1), 1);
        due("that alone", t.rests(0), 1);
        ThroneSale q = told("empire 0 1;guard 9 0 0;general 1 5 0;general 0 5 0;general 2 1 0;road 0 1 1");
        due("who has no way doesn't count", q.rests(0), 1);
        due("with 5 less the other would have it, but the 5 would not", q.rests(1), 0);
        ThroneSale v = told("empire 0 1;guard 5 0 0;general 0 7 0;general 0 6 0;general 0 4 0");
        due("none can rest", v.rests(0), 0);
        due("so there is no least", v.rests(1), -2);
    }

    private static void holdOut() {
        ThroneSale x = sold(ROME);
        due("one day", x.holds(1), 0);
        due("four days", x.holds(4), 0);
        due("five", x.holds(5), -2);
        due("none", x.holds(0), NONE);
        due("too many", x.holds(61), NONE);
        x.kill();
        due("nobody", x.holds(1), NONE);
        due("no empire", new ThroneSale().holds(1), NONE);
        // 20 men want 9 coins a head by DAY 21; on DAY 22 come 5, on DAY 24 as many as they are.
        ThroneSale y = sold("empire 0 9;guard 20 100 20;bidder 0 9;general 1 5 0;general 2 20 0"
                + ";road 0 1 11;road 0 2 12");
        due("before anyone comes", y.holds(22), 0);
        due("200 coins", y.holds(60), 200);
        ThroneSale z = sold("empire 0 9;guard 10 100 20;bidder 7 9;general 1 11 0;road 0 1 11");
        due("no treasury helps", z.holds(23), -2);
        due("but until then", z.holds(22), 0);
    }

    private static void halfGuards() {
        ThroneSale x = told("empire 0 1;guard 4 9 9;guard 5 9 9;guard 6 9 9;guard 7 9 9;guard 8 100 0;bidder 0 9");
        due("how much", x.halves(0), 0);
        // 30 in all: {4, 5, 6} is the first of 15.
        due("part", x.halves(1), 7);
        due("other", x.halves(2), NONE);
        due("below", x.halves(-1), NONE);
        due("no empire", new ThroneSale().halves(0), NONE);
        due("no bands", told("empire 0 1").halves(0), 0);
        due("no bands", told("empire 0 1").halves(1), 0);
        due("one band", told("empire 0 1;guard 3 0 0").halves(0), 3);
        ThroneSale z = told("empire 0 1;guard 2 0 0;guard 3 0 0;guard 3 0 0");
        due("2", z.halves(0), 2);
        due("least of several", z.halves(1), 3);
        ThroneSale y = sold("empire 0 1;guard 9 100 0;guard 2 0 0;guard 4 0 0;guard 3 0 0;bidder 0 9");
        due("9 of 18", y.halves(1), 1);
        days(y, 2);
        due("without the first", y.halves(0), 1);
        due("2 and 3, then 4", y.halves(1), 2 + 8);
    }

    private static void thinnestCoin() {
        ThroneSale x = sold(ROME);
        due("one day", x.thinnest(1), 9);
        due("60 days", told("empire 0 1").thinnest(60), NONE);
        due("60 days", sold("empire 0 1;bidder 1 1").thinnest(60), 9);
        due("nine times", x.thinnest(4), 9);
        due("not even none", x.thinnest(5), -2);
        due("below", x.thinnest(0), NONE);
        due("too many", x.thinnest(61), NONE);
        x.kill();
        due("nobody", x.thinnest(1), NONE);
        due("no empire", new ThroneSale().thinnest(1), NONE);
        ThroneSale y = sold("empire 999 9;guard 10 50 4;bidder 0 9;general 1 1 0;road 0 1 3");
        // By DAY 5 there are 6 payments and 450 are wanted: FINE 80 (480) will do, and FINE 70 (420) won't.
        due("twice", y.thinnest(7), 2);
        due("before he comes", y.thinnest(6), 9);
        y.thin();
        due("once more", y.thinnest(7), 1);
        y.thin();
        due("no more", y.thinnest(7), 0);
        y.thin();
        due("too thin", y.thinnest(7), -2);
        ThroneSale z = sold("empire 999 9;guard 10 50 4;bidder 0 9");
        for (int i = 0; i < 7; i++) {
            z.thin();
        }
        due("two are left", z.thinnest(1), 2);
    }

    private static void logs() {
        ThroneSale x = told(ROME);
        due("log", x.log(0, 0), 1);
        due("log", x.log(60, 11), 2);
        due("nobody", x.log(0, NONE), 3);
        due("late", x.log(61, 0), -2);
        due("early", x.log(-2, 0), -2);
        due("no bidder", x.log(0, 2), -2);
        due("no general", x.log(0, 12), -2);
        due("nothing", x.log(0, 9), -2);
        due("nothing", x.log(0, -2), -2);
        due("logs", x.count(14), 3);
        for (int i = 4; i <= 10; i++) {
            due("log", x.log(i, 10), i);
        }
        due("full", x.log(1, 1), -2);
        due("clear", x.log(NONE, 99), 0);
        due("logs", x.count(14), 0);
        due("no empire", new ThroneSale().log(0, NONE), -2);
        due("no empire", new ThroneSale().log(NONE, 0), 0);
    }

    private static ThroneSale ruledRome() {
        ThroneSale x = told(ROME);
        tellRule(x, "bid 100 if bidder=1");
        tellRule(x, "bid 0");
        tellRule(x, "bid 1*jump if bidder=0");
        tellRule(x, "bid 30 if bidder=1");
        return x;
    }

    private static void ruledBy() {
        ThroneSale x = ruledRome();
        due("all", x.ruled(0), 5);
        due("none first", x.ruled(1), NONE);
        x.log(0, 1);
        due("two", x.ruled(0), 2);
        due("first", x.ruled(1), 0);
        x.log(NONE, 0);
        x.log(7, NONE);
        due("nobody bought", x.ruled(0), 1);
        due("which", x.ruled(1), 1);
        x.log(7, 10);
        due("none such", x.ruled(0), 0);
        due("none such", x.ruled(1), -2);
        x.log(NONE, 0);
        x.log(0, 0);
        x.thin();
        x.bribe(0);
        x.sell();
        x.kill();
        x.log(4, 0);
        // For 5 the guards are content with what they have: half of 5 by DAY 3; the 5 leave on DAY 1.
        due("as the text told it", x.ruled(0), 1);
        due("for 5", x.ruled(1), 2);
        due("other", x.ruled(2), -3);
        due("below", x.ruled(-1), -3);
        due("no empire", new ThroneSale().ruled(0), -3);
    }

    private static void lookOn() {
        ThroneSale x = ruledRome();
        // At the end of DAY 0: 0 (none), 1, nobody, 0, 1. On DAY 4: 10, 10, nobody, 0, 10. So two are alike at first.
        due("day", x.look(0), 0);
        due("most alike", x.look(1), 2);
        x.log(0, 0);
        due("by none and for 5", x.ruled(0), 2);
        due("day", x.look(0), 4);
        due("each by itself", x.look(1), 1);
        x.log(0, 1);
        due("none", x.look(0), -2);
        due("none", x.look(1), -2);
        due("other", x.look(2), NONE);
        due("below", x.look(-1), NONE);
        due("no empire", new ThroneSale().look(0), NONE);
    }

    private static void seeds() {
        ThroneSale x = new ThroneSale();
        due("was 0", x.seed(2147483647), 0);
        due("was", x.seed(5), 2147483647);
        due("below", x.seed(-1), NONE);
        due("stays", x.count(16), 5);
        due("least", x.seed(0), 5);
        due("is 0", x.count(16), 0);
    }

    private static void drawn() {
        ThroneSale x = told(ROME);
        due("first draws 0 and 21468 mod 100", x.reigns(1, 0, 0), 0);
        due("wins", x.reigns(1, 1, 0), 1);
        due("days", x.reigns(1, 1, 1), 10);
        int wins = x.reigns(20, 0, 0) + x.reigns(20, 1, 0);
        due("each time one wins, or none", wins > 15 && wins <= 20 ? 1 : 0, 1);
        due("x as it was", x.count(16), 0);
        int fresh = x.reigns(7, 0, 1);
        tellRule(x, "bid 0");
        x.force(0);
        x.sell();
        due("without a rule", x.reigns(7, 0, 1), fresh);
        x.force(NONE);
        x.sell();
        due("as if nobody reigned", x.reigns(7, 0, 1), fresh);
        due("none", x.reigns(0, 0, 0), NONE);
        due("too many", x.reigns(21, 0, 0), NONE);
        due("no bidder", x.reigns(1, 2, 0), NONE);
        due("no bidder", x.reigns(1, -1, 0), NONE);
        due("other", x.reigns(1, 0, 2), NONE);
        due("below", x.reigns(1, 0, -1), NONE);
        due("no empire", new ThroneSale().reigns(1, 0, 0), NONE);
    }

    private static void counts() {
        ThroneSale x = sold(ROME);
        tellRule(x, "bid 3");
        tellRule(x, "bid 4");
        x.force(1);
        x.day();
        x.thin();
        x.log(5, 1);
        x.seed(8);
        x.feed(0, 0, 0, 0, 0);
        int[] want = {94, 5, 2, 2, 2, 2, 2, 1, 1, 0, 15, 100, 90, 0, 1, 3, 8, 20};
        for (int what = 0; what < want.length; what++) {
            due("count " + what, x.count(what), want[what]);
        }
        due("other", x.count(18), NONE);
        due("below", x.count(-1), NONE);
    }

    private static void images() {
        ThroneSale x = new ThroneSale();
        due("nothing told", x.image(0), 0);
        due("other", x.image(4), NONE);
        due("below", x.image(-1), NONE);
        tell(x, ROME);
        x.sell();
        days(x, 3);
        due("day", x.image(3), 3);
        days(x, 2);
        due("day", x.image(1), 5);
        due("made anew", x.image(3), 5);
        due("back", x.back(3), 5);
    }

    private static void backs() {
        ThroneSale x = told(ROME);
        due("never made", x.back(0), NONE);
        due("without it", x.back(4), NONE);
        due("without it", x.back(-1), NONE);
        tellRule(x, "bid 5");
        x.force(0);
        x.sell();
        days(x, 2);
        x.log(1, 1);
        x.seed(4);
        x.image(0);
        x.force(NONE);
        tellRule(x, "bid 6");
        x.seed(5);
        x.log(2, 1);
        x.thin();
        x.kill();
        x.image(1);
        tell(x, "empire 3 3;bidder 1 1;guard 1 1 1");
        x.feed(1, 1, 1, 1, 1);
        due("back", x.back(0), 2);
        int[] want = {70, 5, 2, 2, 2, 2, 2, 0, 2, 0, 10, 200, 100, 0, 1, 3, 4, 20};
        for (int what = 0; what < want.length; what++) {
            due("count " + what, x.count(what), want[what]);
        }
        due("undo of then", x.undo(), 2);
        due("paid", x.count(11), 100);
        due("ways of then", x.way(0, 2, 0), 5);
        due("to the later one", x.back(1), 2);
        due("killed", x.count(9), NONE);
        due("undo the killing", x.undo(), 4);
        due("who", x.count(9), 0);
        due("and once more", x.back(0), 2);
        due("acts", x.count(15), 3);
    }

    private static void lastPromises() {
        promise = 27;
        logs();
        promise = 28;
        ruledBy();
        promise = 29;
        lookOn();
        promise = 30;
        seeds();
        promise = 31;
        drawn();
        promise = 32;
        counts();
        promise = 33;
        images();
        promise = 34;
        backs();
    }

    private static void firstPromises() {
        promise = 1;
        newObject();
        promise = 2;
        feeds();
        promise = 3;
        ends();
        promise = 4;
        empires();
        promise = 5;
        rules();
        ruleMeanings();
        promise = 6;
        forces();
        promise = 7;
        bands();
        promise = 8;
        bidders();
        promise = 9;
        generals();
        promise = 10;
        dayPays();
        dayComes();
        dayLast();
        promise = 11;
        sells();
        promise = 12;
        bribesOne();
        promise = 13;
        thins();
    }

    private static void middlePromises() {
        promise = 14;
        kills();
        promise = 15;
        undoes();
        promise = 16;
        sales();
        promise = 17;
        aheads();
        promise = 18;
        falls();
        promise = 19;
        reignOne();
        promise = 20;
        bribeSets();
        promise = 21;
        ways();
        promise = 22;
        firsts();
        promise = 23;
        restSets();
        promise = 24;
        holdOut();
        promise = 25;
        halfGuards();
        promise = 26;
        thinnestCoin();
    }

    public static void main(String[] args) {
        firstPromises();
        middlePromises();
        lastPromises();
        System.out.println(wrong == 0 ? "all promises hold" : wrong + " answers are not as due");
        if (wrong != 0) {
            System.exit(1);
        }
    }
}
