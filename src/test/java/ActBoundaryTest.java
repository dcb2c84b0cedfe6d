/** The bounds that the document names of a SALE, of a DAY and of the other ACTS: promises 7 to 15. */
public final class ActBoundaryTest extends Sentences {
    private static ThroneSale forced(String text, String rule) {
        ThroneSale x = told(text, rule);
        x.force(0);
        return x;
    }

    private static void turns() {
        sentence("BIDDERS by turns, 0 first, those who are not OUT:");
        String three = "empire 0 1;bidder 0 0;bidder 0 0;bidder 0 0";
        // 0: 1, 1: 3, 2: OUT, 0: 7, 1: 9; 0: 11, 1: 13, 0: OUT.
        sale("2 is not asked again", forced(three, "bid 0 if bidder=2 or turn>6;bid 2*turn+1"), 1, 13, 8);
        sale("the first is 0", forced(three, "bid 9 if bidder=0;bid 8"), 0, 9, 3);
        sale("0 is out, so 1 is the first", forced(three, "bid 0 if bidder=0;bid 8"), 1, 8, 3);
        sale("behind the last one 0", forced(three, "bid high+1 if turn<4"), 0, 4, 6);
        sentence("the SUM of its first CLAUSE without a TEST, or whose TEST holds (0 without);");
        String one = "empire 0 1;bidder 0 5";
        sale("without a test", forced(one, "bid 4;bid 5"), 0, 4, 1);
        sale("the first that holds", forced(one, "bid 3 if 1=2;bid 4 if 1=1;bid 5 if 1=1;bid 6"), 0, 4, 1);
        sale("none holds", forced(one, "bid 3 if 1=2;bid 4 if 1=2"), NONE, 0, 1);
        sentence("each bids, by the RULE IN FORCE,");
        ThroneSale ruled = told(one, "bid 7", "bid 9");
        sale("none is in force", ruled, 0, 1, 1);
        ruled.force(0);
        sale("the first is", ruled, 0, 7, 1);
        ruled.force(1);
        sale("the last is", ruled, 0, 9, 1);
        ruled.force(NONE);
        sale("none is again", ruled, 0, 1, 1);
        sentence("without a RULE the highest bid and JUMP, if that is DARE or less, else 0.");
        sale("just what is dared", told("empire 0 5;bidder 0 5"), 0, 5, 1);
        sale("one less is dared", told("empire 0 5;bidder 0 4"), NONE, 0, 1);
        sale("nothing is dared", told("empire 0 1;bidder 0 0"), NONE, 0, 1);
        sale("the most", told("empire 0 9;bidder 0 99;bidder 0 99"), 0, 99, 12);
        sale("one below the most", told("empire 0 9;bidder 0 98;bidder 0 98"), 1, 90, 11);
        sale("one by one", told("empire 0 1;bidder 0 99;bidder 0 99"), 0, 99, 100);
    }

    private static void takenBids() {
        sentence("A bid is taken, if it is JUMP or more above the highest one so far (0 at first), and 999 or less:");
        String one = "empire 0 5;bidder 0 0";
        sale("just JUMP", forced(one, "bid 5"), 0, 5, 1);
        sale("less", forced(one, "bid 4"), NONE, 0, 1);
        sale("999", forced(one, "bid 999"), 0, 999, 1);
        sale("1000", forced(one, "bid 1000"), NONE, 0, 1);
        sale("below 0", forced(one, "bid 0-5"), NONE, 0, 1);
        String two = "empire 0 9;bidder 0 0;bidder 0 0";
        sale("JUMP above", forced(two, "bid 20 if bidder=0 and turn=0;bid 29"), 1, 29, 3);
        sale("less above", forced(two, "bid 20 if bidder=0;bid 28"), 0, 20, 2);
        sale("as high", forced(two, "bid 20"), 0, 20, 2);
        sale("990 and 999", forced(two, "bid 990 if turn=0;bid high+9"), 1, 999, 3);
        sale("991 and 1000", forced(two, "bid 991 if turn=0;bid high+9"), 0, 991, 2);
        sale("111 bids to 999", forced(two, "bid high+jump"), 0, 999, 112);
        sale("999 bids to 999", forced("empire 0 1;bidder 0 0;bidder 0 0;bidder 0 0;bidder 0 0", "bid high+1"),
                2, 999, 1002);
        sentence("it is the highest one then, theirs; else they are OUT.");
        sale("out for good", forced(two, "bid 0 if turn=0;bid high+9"), 1, 9, 2);
        sale("out for good, though they bid more", forced("empire 0 9" + times(";bidder 0 0", 3),
                "bid 9 if turn=0;bid 17 if turn=1;bid 18 if turn=2;bid 1 if turn=3;bid 999"), 2, 18, 4);
        sentence("Whose bid is the highest is not asked again: when all others are OUT, they have won.");
        sale("alone", told("empire 0 1;bidder 0 99"), 0, 1, 1);
        sale("the other is out first", told("empire 0 1;bidder 0 0;bidder 0 99"), 1, 1, 2);
        sale("the other is out then", told("empire 0 1;bidder 0 99;bidder 0 0"), 0, 1, 2);
        sale("the last of four", told("empire 0 1;bidder 0 0;bidder 0 0;bidder 0 0;bidder 0 99"), 3, 1, 4);
        sale("the first of four", told("empire 0 1;bidder 0 99;bidder 0 0;bidder 0 0;bidder 0 0"), 0, 1, 4);
        sentence("If all are OUT without a bid, nobody has.");
        sale("four", told("empire 0 1" + times(";bidder 9 0", 4)), NONE, 0, 4);
        sale("one", told("empire 0 9;bidder 9 8"), NONE, 0, 1);
        sale("without any", told("empire 0 1"), NONE, 0, 0);
    }

    private static void pay() {
        sentence("as long as PAID (in hundredths of a coin a man) is less than 100 times what they bid,");
        ThroneSale x = sold("empire 99 3;guard 4 0 0;bidder 9 3");
        due("twice", days(x, 2).count(11), 200);
        due("three times", days(x, 1).count(11), 300);
        due("as much is enough", days(x, 1).count(11), 300);
        due("treasury", x.count(0), 87);
        ThroneSale y = thinned(sold("empire 500 3;guard 4 0 0;bidder 9 3"), 3);
        due("280 is less than 300", days(y, 4).count(11), 280);
        due("so once more", days(y, 1).count(11), 350);
        due("and then no more", days(y, 9).count(11), 350);
        ThroneSale ten = thinned(sold("empire 99 9;guard 1 0 0;bidder 9 9", "bid 10"), 1);
        due("990 is less than 1000", days(ten, 11).count(11), 990);
        due("so once more", days(ten, 1).count(11), 1080);
        due("and then no more", days(ten, 1).count(11), 1080);
        ThroneSale one = thinned(sold("empire 99 1;guard 1 0 0;bidder 9 1", "bid 1"), 1);
        due("90 is less than 100", days(one, 2).count(11), 180);
        due("no more", days(one, 2).count(11), 180);
        sentence("and if there are any,");
        ThroneSale none = sold("empire 9 3;bidder 9 3");
        due("no bands", days(none, 3).count(11), 0);
        ThroneSale left = sold("empire 99 9;guard 4 100 0;bidder 9 9");
        due("paid on two days", days(left, 5).count(11), 200);
        due("nobody is there to be paid", left.count(0), 91);
        sentence("out of the TREASURY, then out of their PURSE, if both together have as many (else nobody gets any):");
        coins(7, 5, 0, 5, 100);
        coins(8, 5, 1, 5, 100);
        coins(6, 5, 0, 4, 100);
        coins(3, 4, 0, 0, 100);
        coins(0, 7, 0, 0, 100);
        coins(7, 0, 0, 0, 100);
        coins(3, 3, 3, 3, 0);
        coins(6, 0, 6, 0, 0);
        coins(0, 6, 0, 6, 0);
        coins(0, 0, 0, 0, 0);
        ThroneSale second = sold("empire 0 1;guard 5 0 0;bidder 9 0;bidder 7 1");
        due("of who reigns", days(second, 1).bidder(1, 0), 2);
        due("not of others", second.bidder(0, 0), 9);
        sentence("PAID is FINE more.");
        for (int thinnings = 0; thinnings < 10; thinnings++) {
            ThroneSale z = thinned(sold("empire 99 9;guard 1 0 0;bidder 9 9"), thinnings);
            due("thinned " + thinnings, days(z, 1).count(11), 100 - 10 * thinnings);
        }
    }

    /** What a DAY with 7 men leaves of a TREASURY and a PURSE, and how much was PAID. */
    private static void coins(int treasury, int purse, int treasuryLeft, int purseLeft, int paid) {
        ThroneSale x = days(sold("empire " + treasury + " 3;guard 7 0 0;bidder " + purse + " 3"), 1);
        String told = "of " + treasury + " and " + purse + ": ";
        due(told + "treasury", x.count(0), treasuryLeft);
        due(told + "purse", x.bidder(0, 0), purseLeft);
        due(told + "paid", x.count(11), paid);
    }

    private static void leave() {
        sentence("if more days than its PATIENCE have gone by since the SALE (the day of the SALE itself is none)");
        for (int patience : new int[] {0, 1, 2, 59, 60}) {
            String text = "empire 0 1;guard 9 100 " + patience + ";bidder 0 1";
            ThroneSale x = days(sold(text), patience + 1);
            due("patience " + patience + " has an end", x.band(0, 3), 0);
            due("men", x.count(10), 9);
            x.day();
            due("patience " + patience + " is at its end", x.band(0, 3), 1);
            due("no men", x.count(10), 0);
            ThroneSale later = days(told(text), 3);
            later.sell();
            due("sold on DAY 3", days(later, patience + 1).band(0, 3), 0);
            due("sold on DAY 3", days(later, 1).band(0, 3), 1);
        }
        sentence("PAID is less than LEAST times what was bid");
        // PAID is 200 on DAY 1, what was bid is 4.
        due("as much", days(sold("empire 99 4;guard 5 50 0;bidder 0 4"), 2).band(0, 3), 0);
        due("less", days(sold("empire 99 4;guard 5 51 0;bidder 0 4"), 2).band(0, 3), 1);
        due("LEAST 0", days(sold("empire 0 4;guard 5 0 0;bidder 0 4"), 70).band(0, 3), 0);
        due("LEAST 1", days(sold("empire 0 4;guard 5 1 0;bidder 0 4"), 2).band(0, 3), 1);
        due("what was paid that day counts", days(sold("empire 5 1;guard 5 100 0;bidder 0 1"), 2).band(0, 3), 0);
        due("all that was bid", days(sold("empire 99 2;guard 5 100 0;bidder 0 2"), 60).band(0, 3), 0);
        ThroneSale x = days(sold("empire 0 1;guard 1 2 0;guard 2 1 1;guard 4 0 0;guard 8 100 2;bidder 0 1"), 2);
        due("each by itself", x.count(10), 14);
        due("each by itself", days(x, 1).count(10), 12);
        due("each by itself", days(x, 1).count(10), 4);
        sentence("(2) Each BAND has LEFT that has not,");
        // 100 of 200 is paid on DAYS 0 and 1 by FINE 50; what the others get from then on brings nobody back.
        ThroneSale gone = days(thinned(sold("empire 99 4;guard 5 50 0;guard 1 0 0;bidder 0 4"), 5), 2);
        due("on day 1", gone.band(0, 3), 1);
        days(gone, 9);
        due("paid enough by now", gone.count(11), 400);
        due("gone for good", gone.band(0, 3), 1);
        gone.kill();
        gone.sell();
        due("at the next sale, too", gone.count(10), 1);
        due("and behind it", days(gone, 1).band(0, 3), 1);
        sentence("(only while one reigns by a SALE).");
        ThroneSale killed = sold("empire 0 1;guard 5 100 0;bidder 0 1");
        killed.kill();
        due("nobody reigns", days(killed, 9).band(0, 3), 0);
        due("nobody has reigned", days(told("empire 0 1;guard 5 100 0;bidder 0 1"), 9).band(0, 3), 0);
    }

    private static void come() {
        sentence("Of GENERALS who are not BRIBED, not BEATEN and do not reign, each by numbers is there,"
                + " if this is the DAY on which they come:");
        String near = "empire 9 1;guard 5 0 0;bidder 9 1;general 1 6 0;general 0 5 0;general 1 7 0;road 0 1 2";
        ThroneSale x = sold(near);
        due("not yet", days(x, 4).count(9), 0);
        due("beaten", x.general(1, 4), 1);
        due("by numbers: 0 comes, then 2 against 6", days(x, 1).count(9), 12);
        due("who lost it is not beaten", x.general(0, 4), 0);
        due("day", x.count(8), 5);
        ThroneSale bribed = sold(near);
        bribed.bribe(2);
        due("the bribed one stays away", days(bribed, 5).count(9), 10);
        due("nor is he beaten", bribed.general(2, 4), 0);
        ThroneSale again = days(sold(near), 5);
        again.kill();
        again.sell();
        due("the beaten ones stay away", days(again, 4).count(9), 0);
        due("who was killed, too", days(again, 1).count(9), 10);
        sentence("the news takes the DAYS of the shortest way from CITY 0 to theirs, they as many back");
        ThroneSale roads = sold("empire 9 1;guard 9 0 0;bidder 9 1;general 2 6 0;road 0 2 9;road 0 1 3;road 1 2 4"
                + ";road 2 1 5");
        due("14, not 18", roads.general(0, 5), 14);
        due("not yet", days(roads, 14).general(0, 4), 0);
        due("on day 14", days(roads, 1).general(0, 4), 1);
        sentence("(of CITY 0: the DAY of the SALE;");
        ThroneSale home = days(told("empire 9 1;guard 5 0 0;bidder 9 1;general 0 6 0"), 2);
        home.sell();
        due("comes", home.general(0, 5), 2);
        due("reigns behind that day", home.day(), 10);
        sentence("without a way they never come;");
        ThroneSale far = sold("empire 9 1;bidder 9 1;general 3 6 0;general 2 6 0;road 0 1 1;road 2 3 1");
        due("never", far.general(0, 5), NONE);
        due("never", far.general(1, 5), NONE);
        due("in 200 days", far.ahead(200, 0), 0);
        due("on day 300", days(far, 300).count(9), 0);
        due("not beaten", far.general(0, 4), 0);
        sentence("nobody comes for a throne that was not SOLD).");
        ThroneSale unsold = told("empire 9 1;bidder 9 1;general 0 6 0;general 1 6 0;road 0 1 1");
        due("nobody", days(unsold, 9).count(9), NONE);
        due("not beaten", unsold.general(0, 4) + unsold.general(1, 4), 0);
        due("ahead", told("empire 9 1;bidder 9 1;general 0 6 0").ahead(200, 0), NONE);
    }

    private static void fight() {
        sentence("Have they more MEN than there are (men of BANDS that have not LEFT, if one reigns by a SALE;"
                + " MEN of the GENERAL who reigns, else; 0, if nobody reigns), they reign (all BANDS have LEFT),"
                + " else they are BEATEN.");
        String guards = "empire 0 1;guard 5 0 0;guard 4 0 0;bidder 0 1;general 0 ";
        ThroneSale more = days(sold(guards + "10 0"), 1);
        due("10 against 9", more.count(9), 10);
        due("men", more.count(10), 0);
        due("all bands have left", more.band(0, 3) + more.band(1, 3), 2);
        due("not beaten", more.general(0, 4), 0);
        ThroneSale same = days(sold(guards + "9 0"), 1);
        due("9 against 9", same.count(9), 0);
        due("beaten", same.general(0, 4), 1);
        due("men", same.count(10), 9);
        ThroneSale left = days(sold("empire 0 1;guard 5 1 0;guard 4 0 0;bidder 0 1;general 1 5 0;road 0 1 1"), 3);
        due("5 against the 4 that are left", left.count(9), 10);
        ThroneSale leaves = days(sold("empire 0 1;guard 5 1 1;guard 4 0 0;bidder 0 1;general 1 5 0;road 0 1 1"), 3);
        due("who leaves on that very day is not there", leaves.count(9), 10);
        due("not more than who reigns", days(sold(guards + "10 0;general 0 10 0"), 1).count(9), 10);
        ThroneSale general = days(sold(guards + "10 0;general 0 11 0;general 0 11 0"), 1);
        due("more than who reigns", general.count(9), 11);
        due("as many are beaten", general.general(2, 4), 1);
        ThroneSale nobody = sold("empire 0 1;guard 30 0 0;bidder 0 1;general 0 1 0;general 0 1 0");
        nobody.kill();
        due("1 against nobody", nobody.day(), 10);
        due("the bands have left", nobody.count(10), 0);
        due("1 against 1", nobody.general(1, 4), 1);
        ThroneSale none = days(sold("empire 0 1;bidder 0 1;general 0 1 0"), 1);
        due("1 against no bands", none.count(9), 10);
    }

    private static void lastDay() {
        sentence("A DAY: who reigns behind it (NONE: nobody);");
        due("nobody", told(ROME).day(), NONE);
        due("nobody", orphaned().day(), NONE);
        due("a bidder", sold(ROME).day(), 0);
        due("a general", days(sold(ROME), 4).day(), 10);
        due("another one", days(sold(ROME), 10).day(), 11);
        sentence("DAY is 1 more (999 at most).");
        sentence("-2, and nothing happens, without an EMPIRE, or at DAY 999.");
        refused("day without an empire", Sentences::bare, ThroneSale::day, -2);
        refused("day of a new object", ThroneSale::new, ThroneSale::day, -2);
        due("one more", days(rich(), 1).count(8), 3);
        // DAY 999 is behind the 512th call, where answers are free; this class goes on.
        ThroneSale x = days(sold(ROME), 998);
        due("to day 999", x.day(), 11);
        due("day 999", x.count(8), 999);
        due("no more", x.day(), -2);
        due("day", x.count(8), 999);
        due("acts", x.undo(), 19);
        due("back to 998", x.count(8), 998);
        due("ahead beyond", x.ahead(200, 0), 11);
    }

    private static void sells() {
        sentence("ACTS: a DAY; SELL (a SALE, if nobody reigns: who has won it reigns, its DAY is the day of the SALE,"
                + " PAID is 0; nothing happens, if nobody has won);");
        ThroneSale x = days(told(ROME), 7);
        due("who", x.sell(), 0);
        due("its day", x.count(13), 7);
        days(x, 2);
        x.kill();
        due("paid so far", x.count(11), 200);
        x.sell();
        due("paid", x.count(11), 0);
        due("its day", x.count(13), 9);
        due("what was bid is of the last sale", days(sold("empire 9 9;guard 1 0 0;bidder 9 9;bidder 0 0"), 9).count(11),
                900);
        sentence("SELL: who has won (NONE, and nothing happens: nobody);");
        refused("nobody wins", ActBoundaryTest::poor, ThroneSale::sell, NONE);
        refused("without bidders", () -> days(told("empire 0 1;guard 1 1 1"), 2), ThroneSale::sell, NONE);
        sentence("-2, and nothing happens, if somebody reigns, or without an EMPIRE.");
        refused("sell while a bidder reigns", Sentences::rich, ThroneSale::sell, -2);
        refused("sell while a general reigns", () -> days(rich(), 12), ThroneSale::sell, -2);
        refused("sell without an empire", Sentences::bare, ThroneSale::sell, -2);
        refused("sell of a new object", ThroneSale::new, ThroneSale::sell, -2);
    }

    private static ThroneSale poor() {
        ThroneSale x = days(told("empire 0 9;guard 1 1 1;bidder 9 8;bidder 9 8"), 2);
        x.thin();
        return x;
    }

    private static void bribesOne() {
        sentence("(a GENERAL who is not BRIBED, not BEATEN and does not reign: their PRICE out of the TREASURY,"
                + " if it has as much);");
        sentence("BRIBE: the TREASURY then; NONE, and nothing happens, without these.");
        String three = "empire 60 1;guard 5 0 0;bidder 0 1;general 1 6 60;general 1 6 61;general 0 1 0;road 0 1 1";
        due("just as much", told(three).bribe(0), 0);
        due("for nothing", told(three).bribe(2), 60);
        refused("one coin too dear", () -> sold(three), x -> x.bribe(1), NONE);
        ThroneSale x = sold(three);
        x.bribe(0);
        due("for nothing of nothing", x.bribe(2), 0);
        due("bribed", x.general(0, 3) + x.general(2, 3), 2);
        due("acts", x.count(15), 3);
        refused("bribed already", Sentences::rich, y -> y.bribe(0), NONE);
        refused("beaten", () -> days(sold(three), 1), y -> y.bribe(2), NONE);
        refused("who reigns", () -> days(sold(three), 3), y -> y.bribe(0), NONE);
        ThroneSale killed = days(sold(three), 3);
        killed.kill();
        due("who reigned and was killed", killed.bribe(0), NONE);
        for (int general : new int[] {LEAST_INT, -1, 2, 3, 4, 10, MOST_INT}) {
            refused("bribe " + general, Sentences::rich, y -> y.bribe(general), NONE);
        }
        refused("bribe without an empire", Sentences::bare, y -> y.bribe(0), NONE);
        refused("bribe of a new object", ThroneSale::new, y -> y.bribe(0), NONE);
    }

    private static void thins() {
        sentence("(FINE is 10 less, not below 10;");
        ThroneSale x = told("empire 9 1");
        for (int i = 1; i <= 9; i++) {
            due("thin", x.thin() >= 9 ? 1 : 0, 1);
            due("fine", x.count(12), 100 - 10 * i);
        }
        sentence("the TREASURY is so much more that it has as much fine metal as before, downwards:"
                + " TREASURY times the former FINE by the new one; 99999 at most);");
        // 9 coins are 10, 11.25 (11), 12.8 (12), 14 (14.4), and so on, each time downwards.
        int[] want = {10, 11, 12, 14, 16, 20, 26, 39, 78};
        ThroneSale y = told("empire 9 1");
        for (int i = 0; i < want.length; i++) {
            due("thin " + i, y.thin(), want[i]);
        }
        due("no coin", told("empire 0 1").thin(), 0);
        due("one coin", told("empire 1 1").thin(), 1);
        due("8 coins", told("empire 8 1").thin(), 8);
        ThroneSale most = thinned(told("empire 9999 1"), 8);
        due("the most that there can be", most.thin(), 99972);
        sentence("THIN: the TREASURY then; NONE, and nothing happens, without an EMPIRE, or if FINE is 10.");
        refused("thin of FINE 10", () -> thinned(sold(ROME), 9), ThroneSale::thin, NONE);
        refused("thin without an empire", Sentences::bare, ThroneSale::thin, NONE);
        refused("thin of a new object", ThroneSale::new, ThroneSale::thin, NONE);
    }

    private static void kills() {
        sentence("(who reigns does not any more; the PURSE of a BIDDER who did is 0; a GENERAL who did is BEATEN;");
        ThroneSale x = sold(ROME);
        due("a bidder", x.kill(), 0);
        due("purse", x.bidder(0, 0), 0);
        due("not another's", x.bidder(1, 0), 20);
        due("nobody", x.count(9), NONE);
        due("the bands have not left", x.count(10), 15);
        ThroneSale y = days(sold(ROME), 5);
        due("a general", y.kill(), 10);
        due("beaten", y.general(0, 4), 1);
        due("not another", y.general(1, 4), 0);
        due("no purse", y.bidder(0, 0), 40);
        sentence("who comes for that SALE still does, till there is another one).");
        ThroneSale z = sold(ROME);
        z.kill();
        due("on day 4", days(z, 4).count(9), NONE);
        due("he does", days(z, 1).count(9), 10);
        ThroneSale w = days(sold(ROME), 1);
        w.kill();
        days(w, 1);
        w.sell();
        due("another one: not on day 4", days(w, 3).count(9), 0);
        due("but on day 6", days(w, 2).count(9), 10);
        due("comes", w.general(1, 5), 12);
        sentence("KILL: who it was; NONE, and nothing happens, if nobody reigns.");
        refused("kill nobody", Sentences::orphaned, ThroneSale::kill, NONE);
        refused("kill before a sale", () -> days(told(ROME), 2), ThroneSale::kill, NONE);
        refused("kill without an empire", Sentences::bare, ThroneSale::kill, NONE);
        refused("kill in a new object", ThroneSale::new, ThroneSale::kill, NONE);
    }

    private static void undoes() {
        sentence("The last 20 ACTS can be UNDONE, the last first.");
        sentence("The last ACT is UNDONE: how many more can be;");
        for (int acts : new int[] {1, 2, 19, 20, 21, 22, 41, 60}) {
            ThroneSale x = days(told(ROME), acts);
            int can = Math.min(acts, 20);
            due("acts of " + acts, x.count(15), can);
            for (int i = 1; i <= can; i++) {
                due("undo", x.undo(), can - i);
                due("day", x.count(8), acts - i);
            }
            due("none of " + acts, x.undo(), -2);
            due("day", x.count(8), acts - can);
        }
        ThroneSale all = sold(ROME);
        all.thin();
        all.bribe(1);
        all.day();
        all.kill();
        all.day();
        int[] wants = {5, 4, 3, 2, 1, 0};
        int[][] counts = {{66, 1, NONE, 90, 0}, {66, 1, 0, 90, 0}, {81, 0, 0, 90, 0}, {111, 0, 0, 90, 0},
            {100, 0, 0, 100, 0}, {100, 0, NONE, 100, NONE}};
        int[] asked = {0, 8, 9, 12, 13};
        for (int i = 0; i < wants.length; i++) {
            due("undo of all sorts", all.undo(), wants[i]);
            for (int j = 0; j < asked.length; j++) {
                due("count " + asked[j] + " behind undo " + i, all.count(asked[j]), counts[i][j]);
            }
        }
        ThroneSale refusals = told(ROME);
        refusals.kill();
        refusals.bribe(9);
        refusals.end(1);
        due("what was refused is no act", refusals.count(15), 0);
        sentence("-2, and nothing happens: none can.");
        refused("undo nothing", () -> told(ROME), ThroneSale::undo, -2);
        refused("undo in a new object", ThroneSale::new, ThroneSale::undo, -2);
        refused("undo without an empire", Sentences::bare, ThroneSale::undo, -2);
    }

    private static void bands() {
        sentence("Of a BAND what 0: MEN, 1: LEAST, 2: PATIENCE, 3: 1 if it has LEFT, else 0. NONE without these.");
        ThroneSale x = days(sold("empire 0 1;guard 1 2 3;guard 4 5 0;guard 6 7 6;guard 8 9 9;guard 10 11 12"
                + ";guard 30 100 60;bidder 0 1"), 2);
        int[][] want = {{1, 2, 3, 0}, {4, 5, 0, 1}, {6, 7, 6, 0}, {8, 9, 9, 0}, {10, 11, 12, 0}, {30, 100, 60, 0}};
        for (int band = 0; band < 6; band++) {
            int b = band;
            for (int what = 0; what < 4; what++) {
                due("band " + band + " " + what, x.band(band, what), want[band][what]);
            }
            without("band " + band, what -> x.band(b, what), 0, 3, NONE);
        }
        for (int what = 0; what < 4; what++) {
            int w = what;
            without("band by number " + what, band -> x.band(band, w), 0, 5, NONE);
            without("band of two " + what, band -> rich().band(band, w), 0, 1, NONE);
            without("band of none " + what, band -> told("empire 1 1").band(band, w), 0, -1, NONE);
            due("band without an empire", bare().band(0, what), NONE);
        }
    }

    private static void bidders() {
        sentence("Of a BIDDER what 0: PURSE, 1: DARE, 2: 1 if they reign, else 0. NONE without these.");
        ThroneSale x = sold("empire 0 1;bidder 1 2;bidder 3 4;bidder 5 6;bidder 9999 99");
        int[][] want = {{1, 2, 0}, {3, 4, 0}, {5, 6, 0}, {9999, 99, 1}};
        for (int bidder = 0; bidder < 4; bidder++) {
            int b = bidder;
            for (int what = 0; what < 3; what++) {
                due("bidder " + bidder + " " + what, x.bidder(bidder, what), want[bidder][what]);
            }
            without("bidder " + bidder, what -> x.bidder(b, what), 0, 2, NONE);
        }
        for (int what = 0; what < 3; what++) {
            int w = what;
            without("bidder by number " + what, bidder -> x.bidder(bidder, w), 0, 3, NONE);
            without("bidder of two " + what, bidder -> rich().bidder(bidder, w), 0, 1, NONE);
            without("bidder of none " + what, bidder -> told("empire 1 1").bidder(bidder, w), 0, -1, NONE);
            due("bidder without an empire", bare().bidder(0, what), NONE);
        }
        due("nobody reigns", told("empire 0 1;bidder 1 1").bidder(0, 2), 0);
        due("a general reigns", days(rich(), 9).bidder(0, 2), 0);
    }

    private static void generals() {
        sentence("Of a GENERAL what 0: CITY, 1: MEN, 2: PRICE, 3: 1 if BRIBED, else 0, 4: 1 if BEATEN, else 0,"
                + " 5: the DAY on which they come (NONE: nothing was SOLD, or never). -2 without these.");
        ThroneSale x = told("empire 9 1;guard 9 0 0;bidder 0 1;general 0 1 2;general 3 4 5;general 6 7 8"
                + ";general 7 200 999;road 0 7 30;road 6 3 1");
        int[][] want = {{0, 1, 2, 0, 0, NONE}, {3, 4, 5, 0, 0, NONE}, {6, 7, 8, 0, 0, NONE}, {7, 200, 999, 0, 0, NONE}};
        generalsAre(x, want);
        days(x, 2);
        x.sell();
        x.bribe(1);
        want[0][5] = 2;
        want[3][5] = 62;
        want[1][3] = 1;
        generalsAre(x, want);
        x.day();
        want[0][4] = 1;
        generalsAre(x, want);
        for (int i = 0; i < 6; i++) {
            int g = i % 4;
            int w = i;
            without("general " + g, what -> x.general(g, what), 0, 5, -2);
            without("general by number " + w, general -> x.general(general, w), 0, 3, -2);
            without("general of two " + w, general -> rich().general(general, w), 0, 1, -2);
            without("general of none " + w, general -> told("empire 1 1").general(general, w), 0, -1, -2);
            due("general without an empire", bare().general(0, i), -2);
        }
    }

    private static void generalsAre(ThroneSale x, int[][] want) {
        for (int general = 0; general < want.length; general++) {
            for (int what = 0; what < 6; what++) {
                due("general " + general + " " + what, x.general(general, what), want[general][what]);
            }
        }
    }

    public static void main(String[] args) {
        open();
        turns();
        takenBids();
        pay();
        leave();
        come();
        fight();
        lastDay();
        bands();
        bidders();
        generals();
        sells();
        bribesOne();
        thins();
        kills();
        undoes();
        close();
    }
}
