/** The bounds that the document names of a new object, of the TAPE, and of what becomes of it: promises 1 to 6. */
public final class TapeBoundaryTest extends Sentences {
    private static void calls() {
        sentence("An object is used for at most 512 calls after it has been made");
        ThroneSale x = new ThroneSale();
        tell(x, "empire 0 1;bidder 0 1;general 1 3 0;road 0 1 30");
        x.sell();
        for (int call = 6; call < 512; call++) {
            due("call " + call, x.day(), call - 6 < 60 ? 0 : 10);
        }
        due("the last call", x.count(8), 506);
    }

    private static void newObject() {
        sentence("No EMPIRE, no RULES, none IN FORCE.");
        ThroneSale x = new ThroneSale();
        due("no empire", x.day(), -2);
        due("no empire", x.ruled(0), -3);
        due("rules", x.count(6), 0);
        due("in force", x.count(7), NONE);
        due("rule 0", x.force(0), -2);
        due("tape", x.count(17), 0);
        due("x", x.seed(1), 0);
    }

    private static void feeds() {
        sentence("Twenty bytes come behind the TAPE, of each number the highest first: how many it has");
        ThroneSale x = new ThroneSale();
        due("the first twenty", x.feed(0x656d7069, 0x72652031, 0x32203320, 0x20202020, 0x20202020), 20);
        due("all twenty count", x.feed(0x3b626964, 0x64657220, 0x34352036, 0x20202020, 0x20202037), 40);
        x.end(39);
        due("read on", x.empire(), 0);
        due("12 and 3", 100 * x.count(0) + x.count(1), 1203);
        due("45 and 6", 100 * x.bidder(0, 0) + x.bidder(0, 1), 4506);
        x.feed(0x656d7069, 0x7265ff31, 0, 0, 0);
        due("a byte above 127", x.empire(), fault(6, 0));
        x.feed(0x656d7069, 0x72652000, 0x80000000, MOST_INT, LEAST_INT);
        due("a byte of 0", x.empire(), fault(7, 0));
        sentence("NONE, and none comes, if it would have more than 400");
        for (int had = 381; had <= 400; had++) {
            int before = had;
            refused("feed behind " + had, () -> filledTape(before), y -> y.feed(1, 2, 3, 4, 5), NONE);
        }
        due("behind 380", filledTape(380).feed(0x20202020, 0x20202020, 0x20202020, 0x20202020, 0x20202020), 400);
        due("behind 361 and 20", filledTape(361).feed(1, 2, 3, 4, 5), 381);
        ThroneSale full = filledTape(380);
        full.feed(0x20202020, 0x20202020, 0x20202020, 0x20202020, 0x2020203b);
        due("the last byte of all", full.empire(), fault(400, 0));
    }

    private static ThroneSale filledTape(int bytes) {
        ThroneSale x = new ThroneSale();
        feed(x, filled("empire 1 1", bytes));
        due("tape", x.count(17), bytes);
        return x;
    }

    private static void ends() {
        sentence("The TAPE has its first n bytes alone: n;");
        ThroneSale x = filledTape(40);
        due("all", x.end(40), 40);
        due("all but one", x.end(39), 39);
        due("as many as an empire", x.end(10), 10);
        due("behind these", x.feed(0x3b626964, 0x64657220, 0x31203120, 0x20202020, 0x20202020), 30);
        due("what was cut off is gone", x.empire(), 0);
        due("bidders", x.count(3), 1);
        due("of none none", x.end(0), 0);
        x.feed(1, 2, 3, 4, 5);
        due("none of some", x.end(0), 0);
        due("tape", x.count(17), 0);
        sentence("NONE, and nothing happens, if it has not so many, or n is below 0.");
        for (int n : new int[] {-1, LEAST_INT, 20, 400, MOST_INT}) {
            refused("end " + n, Sentences::rich, y -> y.end(n), NONE);
        }
        due("as many as it has", rich().end(19), 19);
        due("of none one", new ThroneSale().end(1), NONE);
        due("of all one more", filledTape(400).end(401), NONE);
        due("of all all", filledTape(400).end(400), 400);
    }

    private static void empires() {
        sentence("The TAPE, which is empty then, is the EMPIRE in place of the one there was"
                + " (no LOGS, nothing to be UNDONE; the RULE IN FORCE, x and IMAGES stay): how many BANDS;");
        ThroneSale x = rich();
        due("no bands", tell(x, "empire 3 1"), 0);
        int[] want = {3, 1, 0, 0, 0, 0, 2, 1, 0, NONE, 0, 0, 100, NONE, 0, 0, 77, 0};
        for (int what = 0; what < want.length; what++) {
            due("count " + what, x.count(what), want[what]);
        }
        due("undo", x.undo(), -2);
        due("image", x.back(2), 2);
        due("of the one there was", x.count(2), 2);
        due("six bands", tell(x, "empire 3 1" + times(";guard 1 0 0", 6)), 6);
        due("the former ones are gone", x.count(4), 0);
        ThroneSale fewer = told("empire 0 1" + times(";guard 20 0 0", 6) + times(";bidder 0 99", 4)
                + times(";general 0 200 0", 4) + times(";road 0 1 1", 8));
        due("fewer of all", tell(fewer, "empire 0 1;guard 5 0 0;bidder 0 1;general 0 5 0;road 1 2 1"), 1);
        due("men", fewer.count(10), 5);
        due("halves", fewer.halves(0), 5);
        sale("one bidder", fewer, 0, 1, 1);
        due("no road", fewer.way(0, 1, 0), -2);
        due("sold", fewer.sell(), 0);
        due("bribes", fewer.bribes(0), 0);
        due("one general, who is beaten", fewer.day(), 0);
        due("purses anew", tell(orphaned(), ROME), 2);
        ThroneSale y = orphaned();
        tell(y, ROME);
        due("purse", y.bidder(0, 0), 40);
        due("bribed", y.general(0, 3), 0);
        due("left", y.band(1, 3), 0);
        due("fine", y.count(12), 100);
        sentence("-2 - its FAULT, and all else stays.");
        ThroneSale z = rich();
        due("a fault", z.empire(), fault(0, 0));
        due("the tape is empty all the same", z.count(17), 0);
        due("all else", whole(z).equals(whole(emptied())) ? 1 : 0, 1);
        ThroneSale late = rich();
        due("a late fault", tell(late, ROME + ";guard 30 100 61"), fault(ROME.length() + 14, 1));
        due("all else", whole(late).equals(whole(emptied())) ? 1 : 0, 1);
    }

    private static ThroneSale emptied() {
        ThroneSale x = rich();
        x.end(0);
        return x;
    }

    private static void rules() {
        sentence("The TAPE, which is empty then, is a RULE: its number; -2 - its FAULT;");
        ThroneSale x = new ThroneSale();
        due("the first", tellRule(x, "bid 1"), 0);
        due("tape", x.count(17), 0);
        due("a fault", tellRule(x, "bid 1;"), fault(6, 0));
        due("tape", x.count(17), 0);
        due("rules", x.count(6), 1);
        due("the second", tellRule(x, "bid 2"), 1);
        due("the third", tellRule(x, "bid 3"), 2);
        due("the fourth", tellRule(x, "bid 4"), 3);
        due("the fifth", tellRule(x, "bid 5"), 4);
        due("the sixth", tellRule(x, "bid 6"), 5);
        tell(x, "empire 0 1;bidder 0 0");
        for (int rule = 0; rule < 6; rule++) {
            x.force(rule);
            due("price by rule " + rule, x.sale(1), rule + 1);
        }
        sentence("NONE, and nothing happens: there are 6.");
        refused("a seventh", TapeBoundaryTest::sixRules, ThroneSale::rule, NONE);
        ThroneSale y = sixRules();
        y.rule();
        due("its tape", y.count(17), 5);
        due("rules", y.count(6), 6);
    }

    private static ThroneSale sixRules() {
        ThroneSale x = told("empire 0 1;bidder 0 0", "bid 1", "bid 2", "bid 3", "bid 4", "bid 5", "bid 6");
        feed(x, "bid 7");
        return x;
    }

    private static void forces() {
        sentence("A RULE is IN FORCE (NONE: none): which was;");
        ThroneSale x = sixRules();
        due("none was", x.force(NONE), NONE);
        due("none was", x.force(5), NONE);
        due("5 was", x.force(0), 5);
        due("0 was", x.force(0), 0);
        due("0 was", x.force(NONE), 0);
        due("none", x.count(7), NONE);
        sentence("-2, and nothing happens, if there is none such.");
        for (int rule : new int[] {LEAST_INT, -2, 6, 7, MOST_INT}) {
            refused("force " + rule, TapeBoundaryTest::sixRules, y -> y.force(rule), -2);
        }
        refused("force 2 of 2", Sentences::rich, y -> y.force(2), -2);
        due("of none 0", new ThroneSale().force(0), -2);
    }

    public static void main(String[] args) {
        open();
        calls();
        newObject();
        feeds();
        ends();
        empires();
        rules();
        forces();
        close();
    }
}
