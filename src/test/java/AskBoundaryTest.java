/** The bounds that the document names of what is asked of SALES, DAYS, ways and guards: promises 16 to 26. */
public final class AskBoundaryTest extends Sentences {
    /** A GENERAL of one man comes on DAY 180 and twice as many DAYS as said here. */
    private static String far(int days) {
        return "empire 0 1;bidder 0 1;general 4 1 0;road 0 1 30;road 1 2 30;road 2 3 30;road 3 4 " + days;
    }

    private static void askAll(ThroneSale x) {
        for (int what = 0; what < 4; what++) {
            x.sale(what);
            x.ahead(200, what);
            x.fall(what);
            x.reign(0, what);
            x.bribes(what);
            x.way(0, 2, what);
            x.first(what);
            x.rests(what);
            x.holds(60);
            x.halves(what);
            x.thinnest(60);
            x.ruled(what);
            x.look(what);
            x.reigns(20, 0, what);
            x.count(what);
        }
    }

    private static void nothingChanges() {
        sentence("(By what is asked nothing changes; DAYS go on, beyond 999, too.)");
        ThroneSale[][] pairs = {{rich(), rich()}, {orphaned(), orphaned()}, {bare(), bare()},
            {new ThroneSale(), new ThroneSale()}, {days(rich(), 12), days(rich(), 12)}};
        for (ThroneSale[] pair : pairs) {
            askAll(pair[0]);
            due("all is as it was", whole(pair[0]).equals(whole(pair[1])) ? 1 : 0, 1);
        }
        // Far behind the 512th call, where answers are free; this class goes on.
        ThroneSale x = days(told(far(10)), 900);
        x.sell();
        due("comes", x.general(0, 5), 1100);
        due("day 1099", x.ahead(200, 0), 0);
        due("by day 1100 in 200 days", x.fall(0), -2);
        x.day();
        due("day 1100", x.ahead(200, 0), 10);
        due("fall", x.fall(0), 1100);
        due("holds", days(x, 98).holds(60), 0);
        due("by day 999", x.count(8), 999);
        due("fall", x.fall(0), 1100);
    }

    private static void sales() {
        sentence("SALE: who would win, for how much, after how many bids that were asked for.");
        sale("while nobody reigns", told(ROME), 0, 15, 4);
        sale("while a bidder reigns", sold(ROME), 0, 15, 4);
        sale("while a general reigns", days(sold(ROME), 5), 0, 15, 4);
        sale("by a rule", rich(), 1, 20, 5);
        sentence("SALE what 0: who (NONE: nobody), 1: how much (0: nobody), 2: how many bids."
                + " -2 for others, or without an EMPIRE.");
        sale("nobody of none", told("empire 1 1"), NONE, 0, 0);
        sale("nobody of two", told("empire 1 2;bidder 1 1;bidder 1 1"), NONE, 0, 2);
        without("sale", rich()::sale, 0, 2, -2);
        for (int what = 0; what < 3; what++) {
            due("sale without an empire", bare().sale(what), -2);
        }
    }

    private static void aheads() {
        sentence("AHEAD n DAYS (0 to 200): who reigns (a GENERAL is 10 and their number);"
                + " men that have not LEFT; PAID; the TREASURY.");
        ThroneSale x = sold(ROME);
        int[][] want = {{0, 15, 0, 100}, {0, 15, 100, 85}, {0, 10, 200, 70}, {0, 10, 300, 60}, {0, 0, 400, 50},
            {10, 0, 400, 50}};
        for (int n = 0; n < want.length; n++) {
            for (int what = 0; what < 4; what++) {
                due("ahead " + n + " " + what, x.ahead(n, what), want[n][what]);
            }
        }
        due("just before he comes", days(sold(far(10)), 1).ahead(199, 0), 0);
        due("200 days", days(sold(far(10)), 1).ahead(200, 0), 10);
        due("200 days are to the end of day 199", sold(far(10)).ahead(200, 0), 0);
        due("the fourth general", sold("empire 0 1;bidder 0 1" + times(";general 1 1 1", 3)
                + ";general 0 1 1").ahead(1, 0), 13);
        sentence("AHEAD what 0: who reigns (NONE: nobody), 1: men, 2: PAID, 3: the TREASURY."
                + " -2 without these, or an EMPIRE.");
        due("nobody", told(ROME).ahead(0, 0), NONE);
        due("nobody", told(ROME).ahead(200, 0), NONE);
        for (int what = 0; what < 4; what++) {
            int w = what;
            without("ahead by days", n -> x.ahead(n, w), 0, 200, -2);
            due("ahead without an empire", bare().ahead(0, what), -2);
            due("ahead without an empire", new ThroneSale().ahead(200, what), -2);
        }
        without("ahead", what -> x.ahead(0, what), 0, 3, -2);
        without("ahead", what -> x.ahead(200, what), 0, 3, -2);
    }

    private static void falls() {
        sentence("FALL: the DAY on which who reigns now does not any more, in 200 DAYS; who reigns then.");
        ThroneSale today = sold("empire 0 1;bidder 0 1;general 0 1 0");
        due("today", today.fall(0), 0);
        due("by whom", today.fall(1), 10);
        due("day 198, the 199th", sold(far(9)).fall(0), 198);
        ThroneSale last = days(sold(far(10)), 1);
        due("day 200, the 200th", last.fall(0), 200);
        due("by whom", last.fall(1), 10);
        due("day 200, the 201st", sold(far(10)).fall(0), -2);
        due("day 200, the 201st", sold(far(10)).fall(1), -2);
        due("who is there at that day's end", sold("empire 0 1;guard 1 0 0;bidder 0 1;general 0 2 0;general 0 3 0")
                .fall(1), 11);
        sentence("FALL what 0: the DAY, 1: who reigns then; -2: they don't. -3 for others, or if nobody reigns now.");
        ThroneSale general = days(sold(ROME), 5);
        due("a general falls", general.fall(0), 10);
        due("by another", general.fall(1), 11);
        due("the last one doesn't", days(general, 6).fall(0), -2);
        due("the last one doesn't", general.fall(1), -2);
        without("fall", rich()::fall, 0, 1, -3);
        for (int what = -1; what < 3; what++) {
            due("nobody reigns", orphaned().fall(what), -3);
            due("nobody has reigned", told(ROME).fall(what), -3);
            due("without an empire", bare().fall(what), -3);
        }
    }

    private static void reign(String what, ThroneSale x, int bidder, int dare, int days) {
        due(what + ": dare", x.reign(bidder, 0), dare);
        due(what + ": days", x.reign(bidder, 1), days);
    }

    private static void reignOne() {
        sentence("REIGN of a BIDDER, if a SALE was now (nobody reigns) without a RULE, for their DARE being 0, 1, .. 99"
                + " in place of what it is: the one by which they reign most DAYS");
        reign("99 alone will do", told("empire 0 9;bidder 0 0;bidder 0 90"), 0, 99, 200);
        reign("of itself it is more than 99", told("empire 0 9;bidder 0 0;bidder 0 99"), 0, 99, 200);
        reign("not even 99 will do", told("empire 0 9;bidder 0 99;bidder 0 0"), 1, 0, 0);
        reign("100 would do", told("empire 0 1;bidder 0 99;bidder 0 0"), 1, 0, 0);
        reign("1 is the least that will do", told("empire 0 1;bidder 0 50"), 0, 1, 200);
        sentence("(of 200 from now on, those at whose end they still do; 0, if they don't win);"
                + " of several the least; how many DAYS.");
        reign("falls today", told("empire 0 1;bidder 0 7;general 0 1 0"), 0, 0, 0);
        reign("on day 2", told("empire 0 1;bidder 0 7;general 1 1 0;road 0 1 1"), 0, 1, 2);
        reign("on day 198", told(far(9)), 0, 1, 198);
        reign("on day 200", told(far(10)), 0, 1, 200);
        reign("never", told("empire 0 3;bidder 0 0;bidder 0 0"), 1, 3, 200);
        reign("can't win", told("empire 0 7;bidder 9 2;bidder 9 99"), 0, 0, 0);
        // They win for 4 by each DARE from 4 on; 200 is wanted on DAY 1, and paid.
        String nine = "empire 99 2;guard 9 50 0;bidder 0 2;bidder 0 0;general 1 5 0;road 0 1 5";
        reign("the least of several", told(nine), 1, 4, 200);
        reign("who wins for no days", told("empire 0 1;bidder 0 2;bidder 0 9;general 0 1 0"), 1, 0, 0);
        reign("a rule in force doesn't count", forcedToNothing(), 0, 15, 4);
        ThroneSale both = told("empire 0 9;bidder 0 50;bidder 0 0");
        reign("the one", both, 0, 9, 200);
        reign("then the other", both, 1, 54, 200);
        ThroneSale rich = told("empire 0 9;bidder 0 99;bidder 0 0");
        reign("the one", rich, 0, 9, 200);
        reign("then the other, who can't win", rich, 1, 0, 0);
        sentence("REIGN what 0: DARE, 1: DAYS. NONE without these, or if somebody reigns.");
        ThroneSale x = told("empire 0 1" + times(";bidder 9 9", 4));
        for (int what = 0; what < 2; what++) {
            int w = what;
            without("reign by bidder", bidder -> x.reign(bidder, w), 0, 3, NONE);
            without("reign of two", bidder -> orphaned().reign(bidder, w), 0, 1, NONE);
            without("reign of none", bidder -> told("empire 0 1").reign(bidder, w), 0, -1, NONE);
            due("a bidder reigns", rich().reign(0, what), NONE);
            due("a bidder reigns", rich().reign(1, what), NONE);
            due("a general reigns", days(rich(), 12).reign(1, what), NONE);
            due("without an empire", bare().reign(0, what), NONE);
        }
        due("the last bidder", x.reign(3, 1), 200);
        without("reign", what -> x.reign(0, what), 0, 1, NONE);
    }

    private static ThroneSale forcedToNothing() {
        ThroneSale x = told(ROME, "bid 0");
        x.force(0);
        return x;
    }

    private static void bribes(String what, ThroneSale x, int set, int days) {
        due(what + ": set", x.bribes(0), set);
        due(what + ": days", x.bribes(1), days);
    }

    private static void bribeSets() {
        sentence("BRIBES: the set of GENERALS who can be BRIBED, with the TREASURY as it is, to BRIBE now,"
                + " so that who reigns does longest (likewise, of 200);");
        String two = ";bidder 0 1;general 0 6 40;general 1 6 30;road 0 1 3";
        bribes("just enough for both", sold("empire 70 1" + two), 3, 200);
        bribes("one coin less", sold("empire 69 1" + two), 1, 6);
        bribes("just enough for one", sold("empire 40 1" + two), 1, 6);
        bribes("not enough for the first one", sold("empire 39 1" + two), 0, 0);
        ThroneSale later = sold("empire 100 1;bidder 0 1;general 0 6 0;general 1 7 101;road 0 1 3");
        bribes("as long as can be", later, 1, 6);
        later.day();
        bribes("then who reigns by arms", later, 0, 5);
        bribes("one is bribed already", bribed(sold("empire 70 1" + two), 0), 2, 200);
        bribes("both are bribed already", bribed(bribed(sold("empire 70 1" + two), 0), 1), 0, 200);
        bribes("none is there", sold("empire 0 1;bidder 0 1"), 0, 200);
        bribes("in 200 days", sold(far(10)), 0, 200);
        bribes("in 199 days", sold(far(9).replace("1 0;", "1 0;general 0 1 0;")), 3, 200);
        String free = "empire 0 1;bidder 0 1;general 4 1 1;road 0 1 30;road 1 2 30;road 2 3 30;road 3 4 10";
        bribes("falls on the 201st day", sold(free), 0, 200);
        bribes("falls on the 200th", days(sold(free), 1), 0, 199);
        bribes("who reigns can't be bribed", days(sold("empire 9 1;bidder 0 1;general 0 5 1;general 1 6 1;road 0 1 9"),
                1), 2, 200);
        bribes("who is beaten can't", days(sold("empire 10 1;guard 9 0 0;bidder 0 1;general 0 5 1;general 1 10 1"
                + ";road 0 1 9"), 1), 2, 200);
        bribes("all four", sold("empire 4 1;bidder 0 1" + times(";general 0 1 1", 4)), 15, 200);
        sentence("of several the one of the least PRICE together, then the least as bits; how many DAYS.");
        String three = "empire 99 1;guard 5 0 0;bidder 0 1;general 0 6 ";
        bribes("without any it is as good", sold("empire 99 1;guard 6 0 0;bidder 0 1;general 0 6 0"), 0, 200);
        bribes("no more than needed", sold(three + "5;general 0 5 0"), 1, 200);
        bribes("longer is better than cheaper", sold(three + "50;general 0 7 49"), 3, 200);
        // The first one must be BRIBED, and none of the others changes anything, for nothing as they are.
        bribes("the least as bits", sold(three + "0;general 0 5 0;general 7 9 0"), 1, 200);
        bribes("both who have more", days(sold("empire 99 1;bidder 0 1;general 0 9 0;general 1 10 9;general 1 11 8"
                + ";road 0 1 2"), 1), 6, 200);
        bribes("4 days for nothing", sold("empire 7 1;bidder 0 1;general 0 9 0;general 1 10 9;general 1 11 8"
                + ";road 0 1 2"), 1, 4);
        // With 35 coins all 35 men are paid once and leave; with less the 5 who have patience can be paid 5 times.
        String burning = "empire 36 1;guard 30 100 0;guard 5 10 10;bidder 0 0;general 1 5 999;general 7 1 ";
        bribes("it is as good to lose 3 coins as 2", sold(burning + "3;general 7 1 2;road 0 1 6", "bid 50"), 4, 200);
        bribes("or as 2", sold(burning + "2;general 7 1 2;road 0 1 6", "bid 50"), 2, 200);
        bribes("or as 2 once more", sold(burning + "2;general 7 1 3;road 0 1 6", "bid 50"), 2, 200);
        bribes("1 is not enough", sold(burning + "1;general 7 1 0;road 0 1 6", "bid 50"), 0, 12);
        sentence("BRIBES what 0: the set, 1: DAYS. NONE for others, or if nobody reigns.");
        without("bribes", rich()::bribes, 0, 1, NONE);
        for (int what = 0; what < 2; what++) {
            due("nobody reigns", orphaned().bribes(what), NONE);
            due("nobody has reigned", told(ROME).bribes(what), NONE);
            due("without an empire", bare().bribes(what), NONE);
        }
    }

    private static ThroneSale bribed(ThroneSale x, int general) {
        x.bribe(general);
        return x;
    }

    private static void ways() {
        sentence("WAY from a CITY to another one: the fewest DAYS by ROADS; the next CITY, of several the least.");
        ThroneSale x = told("empire 0 1;road 0 7 30;road 7 6 30;road 6 5 30;road 5 4 30;road 4 3 30;road 3 2 30"
                + ";road 2 1 30;road 1 2 29");
        due("the longest that there can be, but for 1", x.way(0, 1, 0), 209);
        due("and back", x.way(1, 0, 0), 209);
        due("next", x.way(0, 1, 1), 7);
        due("next", x.way(1, 0, 1), 2);
        due("of two roads the shorter", x.way(1, 2, 0), 29);
        due("to the next one", x.way(7, 0, 1), 0);
        due("the longest", told("empire 0 1;road 0 7 30;road 7 6 30;road 6 5 30;road 5 4 30;road 4 3 30;road 3 2 30"
                + ";road 2 1 30").way(1, 0, 0), 210);
        ThroneSale y = told("empire 0 1;road 0 6 2;road 6 1 2;road 5 0 1;road 5 1 3;road 3 0 3;road 3 1 1;road 0 1 5");
        due("by 3, 5 or 6", y.way(0, 1, 0), 4);
        due("the least of several", y.way(0, 1, 1), 3);
        due("the least of several back", y.way(1, 0, 1), 3);
        ThroneSale beside = told("empire 0 1;road 3 4 5;road 0 4 2;road 1 2 3");
        due("no road but one's own leads there", beside.way(3, 4, 1), 4);
        due("nor from there", beside.way(4, 3, 1), 3);
        ThroneSale z = told("empire 0 1;road 0 2 4;road 0 1 2;road 1 2 2");
        due("straight on is no less", z.way(0, 2, 1), 1);
        due("the least may be the end", z.way(2, 0, 1), 0);
        for (int middle = 0; middle < 8; middle++) {
            StringBuilder star = new StringBuilder("empire 0 1");
            for (int city = 0; city < 8; city++) {
                star.append(city == middle ? "" : ";road " + middle + " " + city + " 15");
            }
            int from = (middle + 3) % 8;
            int to = (middle + 6) % 8;
            due("over " + middle, told(star.toString()).way(from, to, 0), 30);
            due("over " + middle, told(star.toString()).way(from, to, 1), middle);
        }
        sentence("WAY what 0: DAYS, 1: the next CITY (NONE: it is there); -2: there is none."
                + " -3 without these, or an EMPIRE.");
        ThroneSale none = told("empire 0 1;road 2 3 1");
        for (int city = 0; city < 8; city++) {
            due("there", none.way(city, city, 0), 0);
            due("there", none.way(city, city, 1), NONE);
            due("there without an empire", bare().way(city, city, 0), -3);
        }
        for (int what = 0; what < 2; what++) {
            int w = what;
            due("no way", none.way(0, 1, what), -2);
            due("no way", none.way(0, 3, what), -2);
            due("no way", none.way(3, 7, what), -2);
            without("way from", from -> none.way(from, 0, w), 0, 7, -3);
            without("way to", to -> none.way(0, to, w), 0, 7, -3);
            without("way from and to", city -> none.way(city, city, w), 0, 7, -3);
        }
        without("way", what -> none.way(2, 3, what), 0, 1, -3);
        without("way", what -> none.way(2, 2, what), 0, 1, -3);
        without("way", what -> none.way(2, 4, what), 0, 1, -3);
    }

    private static void firsts() {
        sentence("FIRST: the GENERAL (not BRIBED, not BEATEN, who does not reign, and has a way)"
                + " who can be there first for a SALE today, of several the least; how many DAYS that is.");
        ThroneSale x = told("empire 9 1;bidder 0 1;general 3 1 1;general 2 1 1;general 1 1 1;general 1 9 1"
                + ";road 0 1 4;road 0 2 5");
        due("the least of several", x.first(0), 2);
        due("days", x.first(1), 8);
        x.bribe(2);
        due("not the bribed one", x.first(0), 3);
        x.sell();
        days(x, 9);
        due("who reigns", x.count(9), 13);
        due("not who reigns", x.first(0), 1);
        due("days", x.first(1), 10);
        days(x, 2);
        due("beaten", x.general(1, 4), 1);
        due("not who is beaten, nor who has no way", x.first(0), -2);
        due("of city 0", told("empire 0 1;general 1 1 1;general 0 1 1;road 0 1 1").first(1), 0);
        due("the farthest", told("empire 0 1;general 1 1 1;road 0 7 30;road 7 6 30;road 6 5 30;road 5 4 30"
                + ";road 4 3 30;road 3 2 30;road 2 1 30").first(1), 420);
        sentence("FIRST what 0: who, 1: how many DAYS; -2: nobody. -3 for others, or without an EMPIRE.");
        without("first", rich()::first, 0, 1, -3);
        without("first of none", told("empire 0 1")::first, 0, 1, -3);
        for (int what = 0; what < 2; what++) {
            due("none is there", told("empire 0 1").first(what), -2);
            due("all have no way", told("empire 0 1;general 1 1 1").first(what), -2);
            due("without an empire", bare().first(what), -3);
        }
    }

    private static void rests(String what, ThroneSale x, int sets, int least) {
        due(what + ": how many", x.rests(0), sets);
        due(what + ": the least", x.rests(1), least);
    }

    private static void restSets() {
        sentence("who has more MEN than there are holds it with what is more; else they are lost,"
                + " and there are as many less.");
        rests("as many don't hold it", told("empire 0 1;guard 5 0 0;general 0 5 0"), 1, 0);
        rests("one more does", told("empire 0 1;guard 5 0 0;general 0 6 0"), 1, 1);
        rests("1 against nobody", told("empire 0 1;general 0 1 0"), 1, 1);
        // Behind 0, who is lost with 4 against 5, 1 would hold it with 2 against 1: but 0 would rather wait.
        rests("who is lost would wait", told("empire 0 1;guard 5 0 0;general 0 4 0;general 0 2 0"), 1, 0);
        // 0 holds it with 4 against 5, and 1 is lost with 4, but takes it with 6.
        rests("what is more than 5 holds it", told("empire 0 1;guard 5 0 0;general 0 9 0;general 0 4 0"), 1, 1);
        rests("one more takes it", told("empire 0 1;guard 5 0 0;general 0 9 0;general 0 6 0"), 1, 2);
        rests("none can rest", told("empire 0 1;guard 5 0 0;general 0 7 0;general 0 6 0;general 0 4 0"), 0, -2);
        sentence("they come by their DAYS, then by numbers, against the men that have not LEFT:");
        rests("the nearer one first", told("empire 0 1;guard 5 0 0;general 1 6 0;general 0 6 0;road 0 1 1"), 1, 1);
        rests("by numbers", told("empire 0 1;guard 5 0 0;general 0 6 0;general 0 6 0"), 1, 2);
        ThroneSale left = days(sold("empire 0 1;guard 5 1 0;guard 4 0 0;bidder 0 1;general 1 5 0;road 0 1 9"), 2);
        rests("against 4", left, 1, 1);
        String roads = ";road 0 1 1;road 1 2 1;road 2 3 1;road 3 4 1";
        rests("backwards", told("empire 0 1;guard 5 0 0;general 4 20 0;general 3 13 0;general 2 9 0;general 1 7 0"
                + roads), 1, 1);
        rests("the last one first", told("empire 0 1;guard 5 0 0;general 1 7 0;general 3 6 0;general 2 9 0"
                + ";general 0 9 0" + roads), 1, 2);
        rests("none, as they come", told("empire 0 1;guard 5 0 0;general 1 7 0;general 3 3 0;general 2 7 0"
                + ";general 0 9 0" + roads), 0, -2);
        rests("the last of those who are as far", told("empire 0 1;guard 5 0 0;general 1 7 0;general 3 7 0"
                + ";general 2 7 0;general 3 7 0" + roads), 1, 8);
        rests("against 9", told("empire 0 1;guard 5 1 0;guard 4 0 0;bidder 0 1;general 1 5 0;road 0 1 9"), 1, 0);
        sentence("RESTS of GENERALS who march or wait (the same ones; sets of who marches):");
        sentence("Each who holds it at last has 2, who waits 1, who is lost or has lost it 0.");
        rests("who waits has more than who is lost", told("empire 0 1;guard 5 0 0;general 0 5 0"), 1, 0);
        rests("who holds it has more than who waits", told("empire 0 1;guard 5 0 0;general 0 6 0"), 1, 1);
        rests("who waits has more than who has lost it", told("empire 0 1;guard 5 0 0;general 0 6 0;general 0 9 0"),
                1, 2);
        sentence("It RESTS, if nobody has more by doing the other thing alone: how many sets; the least as bits.");
        rests("not who has no way", told("empire 0 1;general 1 9 0;general 0 1 0"), 1, 2);
        rests("not who is bribed", bribed(told("empire 0 1;general 0 1 0;general 0 9 0"), 1), 1, 1);
        rests("not who reigns", days(sold("empire 0 1;bidder 0 1;general 0 5 0;general 1 9 0;road 0 1 9"),
                1), 1, 2);
        rests("not who is beaten", days(sold("empire 0 1;guard 5 9 1;bidder 0 1;general 0 5 0;general 1 5 0"
                + ";road 0 1 9"), 3), 1, 2);
        rests("all four", told("empire 0 1;guard 9 0 0;general 0 1 0;general 0 2 0;general 0 3 0;general 0 200 0"), 1, 8);
        // Two of them could hold it together, but none would be the one who is lost.
        rests("four of one man each", told("empire 0 1;guard 1 0 0" + times(";general 0 1 0", 4)), 1, 0);
        sentence("RESTS what 0: how many, 1: the least (-2: there is none). NONE for others, or without an EMPIRE.");
        rests("no generals: the empty set", told("empire 0 1"), 1, 0);
        without("rests", rich()::rests, 0, 1, NONE);
        for (int what = 0; what < 2; what++) {
            due("without an empire", bare().rests(what), NONE);
        }
    }

    private static void holdOut() {
        sentence("HOLDS to the n-th DAY from now (1 to 60): the least TREASURY (0, 100, .. 9900) in place of what it is,"
                + " by which who reigns still does then.");
        // On DAY 60 he comes, and all leave who don't have 9 coins: on DAY 40 there are 20 DAYS until then.
        ThroneSale x = days(sold("empire 0 9" + times(";guard 25 100 59", 4) + ";bidder 0 9;general 1 1 0"
                + ";road 0 1 30"), 40);
        due("to the end of day 59", x.holds(20), 0);
        due("to the end of day 60", x.holds(21), 900);
        due("from day 41", days(x, 1).holds(19), 0);
        due("from day 41", x.holds(20), 900);
        String near = "empire 0 9;guard 10 100 5;bidder 0 9;general 1 1 0;road 0 1 3";
        ThroneSale y = sold(near);
        due("before he comes", y.holds(6), 0);
        // 7 coins a man can be paid till DAY 6, and 9 are wanted: they leave on DAY 6, when he comes.
        due("on the day he comes", y.holds(7), -2);
        ThroneSale z = sold("empire 0 7;guard 10 100 5;bidder 0 7;general 1 1 0;road 0 1 3");
        due("70 coins", z.holds(7), 100);
        due("for good", z.holds(60), 100);
        ThroneSale hundred = sold("empire 0 7;guard 20 100 5;bidder 0 7;general 1 1 0;road 0 1 3");
        due("140 coins", hundred.holds(60), 200);
        ThroneSale exact = sold("empire 0 5;guard 20 100 5;bidder 0 5;general 1 1 0;road 0 1 3");
        due("100 coins", exact.holds(60), 100);
        ThroneSale purse = sold("empire 0 7;guard 20 100 5;bidder 40 7;general 1 1 0;road 0 1 3");
        due("40 are in the purse", purse.holds(60), 100);
        due("the most", dear(9900).holds(60), 9900);
        due("one more is none of these", dear(9901).holds(60), -2);
        due("in place of what it is", sold("empire 9999 9;guard 1 0 0;bidder 0 9").holds(60), 0);
        due("a general holds", days(sold(ROME), 5).holds(5), 0);
        due("until another comes", days(sold(ROME), 5).holds(6), -2);
        sentence("HOLDS; -2: by none of these; NONE without these, or if nobody reigns.");
        without("holds", sold(ROME)::holds, 1, 60, NONE);
        due("1", sold(ROME).holds(1), 0);
        due("60", sold("empire 0 1;bidder 0 1").holds(60), 0);
        for (int n : new int[] {0, 1, 60, 61}) {
            due("nobody reigns", orphaned().holds(n), NONE);
            due("nobody has reigned", told(ROME).holds(n), NONE);
            due("without an empire", bare().holds(n), NONE);
        }
    }

    /** 180 men want 56 coins each by DAY 57, and he comes on DAY 58: so many coins the PURSE doesn't have. */
    private static ThroneSale dear(int coins) {
        return sold("empire 0 1" + times(";guard 30 100 56", 6) + ";bidder " + (180 * 56 - coins)
                + " 0;general 1 179 0;road 0 1 29", "bid 56");
    }

    private static void halfGuards() {
        sentence("HALVES of the guards: BANDS that have not LEFT in two parts, whose men differ least: how much;"
                + " the part with BAND of the least number in it, of several the least as bits.");
        halves("", 0, 0);
        halves(";guard 3 0 0", 3, 1);
        halves(";guard 3 0 0;guard 3 0 0", 0, 1);
        halves(";guard 3 0 0;guard 30 0 0", 27, 1);
        halves(";guard 30 0 0;guard 3 0 0", 27, 1);
        halves(";guard 2 0 0;guard 3 0 0;guard 3 0 0", 2, 3);
        halves(";guard 1 0 0;guard 2 0 0;guard 3 0 0;guard 4 0 0", 0, 9);
        halves(times(";guard 1 0 0", 6), 0, 7);
        halves(times(";guard 1 0 0", 5), 1, 3);
        halves(times(";guard 30 0 0", 5) + ";guard 1 0 0", 29, 7);
        sentence("HALVES what 0: how much, 1: the part (0: there are no BANDS). NONE for others, or without an EMPIRE.");
        ThroneSale left = sold("empire 0 1;guard 9 1 0;guard 2 0 0;guard 4 0 0;guard 3 0 0;bidder 0 1");
        due("the first against all others", left.halves(0), 0);
        due("the first alone", left.halves(1), 1);
        days(left, 2);
        due("the first has left", left.halves(0), 1);
        due("the second is the least there", left.halves(1), 2 + 8);
        ThroneSale all = sold("empire 0 1;guard 9 1 0;guard 2 1 0;bidder 0 1");
        due("none has left", all.halves(0), 7);
        days(all, 2);
        due("all have left", all.halves(0), 0);
        due("no part", all.halves(1), 0);
        without("halves", rich()::halves, 0, 1, NONE);
        for (int what = 0; what < 2; what++) {
            due("without an empire", bare().halves(what), NONE);
        }
    }

    private static void halves(String guards, int apart, int part) {
        ThroneSale x = told("empire 0 1" + guards);
        due("apart of \"" + guards + "\"", x.halves(0), apart);
        due("part of \"" + guards + "\"", x.halves(1), part);
    }

    private static void thinnestCoin() {
        sentence("THINNEST: how often one could THIN now (0 to 9) so that who reigns still does n DAYS on (1 to 60):"
                + " the most.");
        // By DAY 5 there are 6 payments, and 450 are wanted: FINE 80 (480) will do, and FINE 70 (420) won't.
        String text = "empire 999 9;guard 10 50 4;bidder 0 9;general 1 1 0;road 0 1 3";
        ThroneSale x = sold(text);
        due("before he comes", x.thinnest(6), 9);
        due("when he comes", x.thinnest(7), 2);
        due("60 days", x.thinnest(60), 2);
        due("one is done", thinned(x, 1).thinnest(7), 1);
        due("both are done", thinned(x, 1).thinnest(7), 0);
        due("one too many", thinned(x, 1).thinnest(7), -2);
        for (int thinnings = 0; thinnings < 10; thinnings++) {
            ThroneSale y = thinned(sold("empire 9 1;bidder 0 1"), thinnings);
            due("as often as one can behind " + thinnings, y.thinnest(1), 9 - thinnings);
        }
        // 19 coins are one payment of 100, and 180 is wanted by DAY 2: 21 coins of FINE 90 are two, 30 of 60 three.
        ThroneSale few = sold("empire 19 9;guard 10 20 1;bidder 0 99;general 1 1 0;road 0 1 1");
        due("by one and by four, and not by none", few.thinnest(3), 4);
        due("by three more", thinned(few, 1).thinnest(3), 3);
        due("by two more, and not by none", thinned(few, 1).thinnest(3), 2);
        sentence("THINNEST; -2: not even by none; NONE without these, or if nobody reigns.");
        due("not even by none", sold(ROME).thinnest(5), -2);
        due("not even by none, thin as it is", thinned(sold(ROME), 9).thinnest(5), -2);
        without("thinnest", sold(ROME)::thinnest, 1, 60, NONE);
        due("1", sold(ROME).thinnest(1), 9);
        for (int n : new int[] {0, 1, 60, 61}) {
            due("nobody reigns", orphaned().thinnest(n), NONE);
            due("nobody has reigned", told(ROME).thinnest(n), NONE);
            due("without an empire", bare().thinnest(n), NONE);
        }
    }

    public static void main(String[] args) {
        open();
        nothingChanges();
        sales();
        aheads();
        falls();
        reignOne();
        bribeSets();
        ways();
        firsts();
        restSets();
        holdOut();
        halfGuards();
        thinnestCoin();
        close();
    }
}
