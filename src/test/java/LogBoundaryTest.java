/** The bounds that the document names of LOGS, DRAWS, counts and IMAGES: promises 27 to 34. */
public final class LogBoundaryTest extends Sentences {
    /** By none it is SOLD to 0 for 15, and 10 reigns from the end of DAY 4, 11 from the end of DAY 10. */
    private static ThroneSale rome(String... rules) {
        return told(ROME, rules);
    }

    private static void logs() {
        sentence("LOGS 0 to 9, told: at the end of DAY n (0 to 60;");
        sentence("A LOG (n NONE: there are none then, 0): how many;");
        ThroneSale x = rome();
        for (int i = 1; i <= 10; i++) {
            due("log " + i, x.log(6 * i, 11), i);
            due("logs", x.count(14), i);
        }
        for (int n : new int[] {0, 7, 60}) {
            refused("an eleventh", LogBoundaryTest::tenLogs, y -> y.log(n, 0), -2);
        }
        due("none then", x.log(NONE, 0), 0);
        due("logs", x.count(14), 0);
        due("none of none", x.log(NONE, 0), 0);
        due("again", x.log(0, 0), 1);
        for (int who : new int[] {LEAST_INT, -2, 4, 99, MOST_INT}) {
            ThroneSale y = tenLogs();
            due("none then, whoever it is", y.log(NONE, who), 0);
            due("logs", y.count(14), 0);
        }
        due("none then without an empire", bare().log(NONE, 5), 0);
        sentence("-2, and nothing happens, without these (a BIDDER, a GENERAL that there is, NONE), or if there are 10.");
        for (int n : new int[] {LEAST_INT, -2, 61, 62, MOST_INT}) {
            refused("log of day " + n, Sentences::rich, y -> y.log(n, 0), -2);
        }
        for (int who : new int[] {LEAST_INT, -2, 2, 3, 4, 9, 12, 13, 14, 20, MOST_INT}) {
            refused("log of " + who, Sentences::rich, y -> y.log(5, who), -2);
        }
        for (int who : new int[] {-1, 0, 10}) {
            refused("without an empire " + who, Sentences::bare, y -> y.log(0, who), -2);
            due("of nobody at all", told("empire 1 1").log(0, who), who == NONE ? 1 : -2);
        }
        String all = "empire 1 1" + times(";bidder 1 1", 4) + times(";general 1 1 1", 4);
        for (int who : new int[] {-1, 0, 1, 2, 3, 10, 11, 12, 13}) {
            due("log of " + who, told(all).log(60, who), 1);
        }
        for (int who : new int[] {-2, 4, 9, 14}) {
            due("log of " + who, told(all).log(60, who), -2);
        }
    }

    private static ThroneSale tenLogs() {
        ThroneSale x = rich();
        for (int i = 0; i < 8; i++) {
            x.log(i, 0);
        }
        due("logs", x.count(14), 10);
        return x;
    }

    /** How many of none and the RULES there are by which somebody reigned at the end of a DAY; the first of them. */
    private static void ruled(ThroneSale x, int day, int who, int many, int first) {
        x.log(NONE, 0);
        x.log(day, who);
        due("how many by " + who + " on " + day, x.ruled(0), many);
        due("the first by " + who + " on " + day, x.ruled(1), first);
    }

    private static void ruledBy() {
        sentence("DAY 0 is the one on which it was SOLD) somebody reigned (0 to 3, 10 to 13), or nobody (NONE),"
                + " all as the text told it, and SOLD at the begin.");
        ThroneSale x = rome();
        ruled(x, 0, 0, 1, NONE);
        ruled(x, 3, 0, 1, NONE);
        ruled(x, 4, 0, 0, -2);
        ruled(x, 3, 10, 0, -2);
        ruled(x, 4, 10, 1, NONE);
        ruled(x, 9, 10, 1, NONE);
        ruled(x, 10, 10, 0, -2);
        ruled(x, 10, 11, 1, NONE);
        ruled(x, 60, 11, 1, NONE);
        ruled(x, 0, NONE, 0, -2);
        ruled(x, 0, 1, 0, -2);
        ThroneSale changed = rome();
        changed.thin();
        changed.bribe(0);
        days(changed, 3);
        changed.sell();
        days(changed, 3);
        changed.kill();
        ruled(changed, 4, 10, 1, NONE);
        ruled(changed, 3, 0, 1, NONE);
        ThroneSale today = told("empire 0 1;bidder 0 1;general 0 1 0");
        ruled(today, 0, 10, 1, NONE);
        ruled(today, 0, 0, 0, -2);
        String last = "empire 0 1;bidder 0 1;general 1 1 0;road 0 1 30";
        ruled(told(last), 59, 0, 1, NONE);
        ruled(told(last), 60, 10, 1, NONE);
        ruled(told(last), 60, 0, 0, -2);
        ThroneSale unsold = told("empire 0 9;bidder 0 1;general 0 1 0");
        ruled(unsold, 60, NONE, 1, NONE);
        ruled(unsold, 0, 10, 0, -2);
        sentence("RULED: by which of the RULES, and of none, it was SOLD, so that all LOGS are so: how many;"
                + " the first (none ahead of 0, told as NONE).");
        ThroneSale six = sixRules();
        due("no logs: none and six", six.ruled(0), 7);
        due("none is ahead of 0", six.ruled(1), NONE);
        ruled(six, 0, 1, 5, 1);
        ruled(six, 0, 0, 2, NONE);
        ruled(six, 4, 0, 1, 0);
        six.log(0, 0);
        due("two logs", six.ruled(0), 1);
        six.log(0, 1);
        due("not all are so", six.ruled(0), 0);
        due("not all are so", six.ruled(1), -2);
        ThroneSale late = rome("bid 5 if day=0;bid 0", "bid 5 if treasury=100 and men=15 and purse=20 and turn=1");
        days(late, 3);
        late.thin();
        ruled(late, 4, 0, 1, 0);
        ruled(late, 4, 1, 1, 1);
        late.force(1);
        ruled(late, 4, 1, 1, 1);
        sentence("RULED what 0: how many, 1: the first (NONE: none; -2: there is none such)."
                + " -3 for others, or without an EMPIRE.");
        without("ruled", six::ruled, 0, 1, -3);
        without("ruled of none", told("empire 0 1")::ruled, 0, 1, -3);
        for (int what = -1; what < 3; what++) {
            due("without an empire", bare().ruled(what), -3);
        }
    }

    /** By rule 0 it is SOLD to 0 for 5, whose guards stay; by the others to 1 for 30. */
    private static ThroneSale sixRules() {
        String dear = "bid 30 if bidder=1";
        ThroneSale x = rome("bid 5 if bidder=0", dear, dear, dear, dear, dear);
        due("rules", x.count(6), 6);
        return x;
    }

    private static void look(String what, ThroneSale x, int day, int alike) {
        due(what + ": day", x.look(0), day);
        due(what + ": how many", x.look(1), alike);
    }

    private static void lookOn() {
        sentence("LOOK: the DAY (0 to 60) at whose end by who reigns these part best: the most alike are fewest,"
                + " of several the least; how many.");
        look("none alone", rome(), 0, 1);
        look("all alike on each day", rome("bid 15 if bidder=0", "bid 15 if bidder=0"), 0, 3);
        look("two sorts on day 0", rome("bid 30 if bidder=1"), 0, 1);
        // By none and by rule 0 it is 0 who has it; for 5 the guards are content, and from DAY 4 on they part.
        look("day 4", rome("bid 5 if bidder=0"), 4, 1);
        // For 999 the guards leave on DAY 60, as one coin is paid alone; for 1 they stay.
        String late = "empire 5 1;guard 5 1 59;bidder 0 1;general 1 1 0;road 0 2 1;road 2 1 ";
        look("day 58 is as well", told(late.replace("59", "57") + "28", "bid 999"), 58, 1);
        look("day 60, the last one", told(late + "29", "bid 999"), 60, 1);
        look("day 62 would be", told(late + "30", "bid 999"), 0, 2);
        ThroneSale six = sixRules();
        look("five of seven are alike", six, 0, 5);
        six.log(0, 0);
        look("only these count", six, 4, 1);
        ThroneSale groups = rome("bid 30 if bidder=1", "bid 5 if bidder=0", "bid 0", "bid 5 if bidder=0");
        look("2, 1 and 2 on day 0: 3 by 0, 1, nobody", groups, 4, 2);
        sentence("LOOK what 0: the DAY, 1: how many; -2: no RULE is so. NONE for others, or without an EMPIRE.");
        ThroneSale none = rome();
        none.log(0, 1);
        look("no rule is so", none, -2, -2);
        without("look", rome()::look, 0, 1, NONE);
        without("look of none", none::look, 0, 1, NONE);
        for (int what = -1; what < 3; what++) {
            due("without an empire", bare().look(what), NONE);
        }
    }

    private static void seeds() {
        sentence("DRAWS: x (0 to 2147483647; 0 at first) becomes x * 1103515245 + 12345, of 2147483648 the rest;"
                + " a DRAW is x / 65536.");
        due("at first", new ThroneSale().count(16), 0);
        // A sole BIDDER wins by each DARE that is JUMP or more. Draws by 0: 0, and 21468 mod 100, 68.
        String one = "empire 0 1;bidder 0 0";
        ThroneSale x = told(one);
        due("0 is not enough", x.reigns(1, 0, 0), 0);
        due("68 is", x.reigns(2, 0, 0), 1);
        // 1 and 0 mod 100, but just so: by a little more or less than 65536 they would be 0 and 1.
        due("a draw of 1", drawn(101, one).reigns(1, 0, 0), 1);
        due("a draw of 0", drawn(132, one).reigns(1, 0, 0), 0);
        due("a draw of 0", drawn(163, one).reigns(1, 0, 0), 0);
        due("a draw of 99", drawn(404, one).reigns(1, 0, 0), 1);
        int[] seeds = {0, 1, 5, 65535, 65536, 1103515245, 2147483646, MOST_INT};
        for (int seed : seeds) {
            for (int jump = 1; jump <= 9; jump++) {
                due("draws of " + seed, drawn(seed, "empire 0 " + jump + ";bidder 0 0").reigns(20, 0, 0),
                        20 - below(seed, jump, 1));
                due("draws of " + seed + " for two", drawn(seed, "empire 0 " + jump + ";bidder 0 0;bidder 0 0")
                        .reigns(20, 0, 0) + drawn(seed, "empire 0 " + jump + ";bidder 0 0;bidder 0 0")
                        .reigns(20, 1, 0), 20 - below(seed, jump, 2));
            }
        }
        sentence("x becomes a number: what it was; NONE, and nothing happens, below 0.");
        ThroneSale y = new ThroneSale();
        due("was 0", y.seed(0), 0);
        due("was 0", y.seed(MOST_INT), 0);
        due("the most", y.count(16), MOST_INT);
        due("was the most", y.seed(1), MOST_INT);
        for (int below : new int[] {-1, -2, LEAST_INT}) {
            refused("seed " + below, Sentences::rich, z -> z.seed(below), NONE);
            refused("seed " + below + " without an empire", Sentences::bare, z -> z.seed(below), NONE);
        }
    }

    private static ThroneSale drawn(int seed, String text) {
        ThroneSale x = told(text);
        x.seed(seed);
        return x;
    }

    /** In how many of 20 SALES all of so many DRAWS are below JUMP. */
    private static int below(int seed, int jump, int bidders) {
        long x = seed;
        int sum = 0;
        for (int i = 0; i < 20; i++) {
            boolean all = true;
            for (int bidder = 0; bidder < bidders; bidder++) {
                x = (x * 1103515245L + 12345L) % 2147483648L;
                all = all && x / 65536 % 100 < jump;
            }
            sum += all ? 1 : 0;
        }
        return sum;
    }

    private static void drawnReigns() {
        sentence("REIGNS m times (1 to 20): a SALE now (as if nobody reigned) without a RULE, in which of each BIDDER,"
                + " by numbers, a DRAW mod 100 is DARE, then 200 DAYS: how often a BIDDER wins;"
                + " how many DAYS they reign, as told, all together (x as it was).");
        String one = "empire 0 1;bidder 0 0;general 1 1 0;road 0 1 2";
        due("once", told(one).reigns(1, 0, 0), 0);
        due("no days", told(one).reigns(1, 0, 1), 0);
        due("twice", told(one).reigns(2, 0, 0), 1);
        due("4 days", told(one).reigns(2, 0, 1), 4);
        int wins = 20 - below(0, 1, 1);
        due("20 times", told(one).reigns(20, 0, 0), wins);
        due("4 days each", told(one).reigns(20, 0, 1), 4 * wins);
        due("for good", told("empire 0 1;bidder 0 0").reigns(20, 0, 1), 200 * wins);
        due("of today none", told("empire 0 1;bidder 0 0;general 0 1 0").reigns(20, 0, 1), 0);
        due("to day 200", told(far(10)).reigns(2, 0, 1), 200);
        due("to day 198", told(far(9)).reigns(2, 0, 1), 198);
        ThroneSale x = sold("empire 0 1;bidder 0 1;bidder 0 0;general 1 1 0;road 0 1 2");
        due("while a bidder reigns", x.reigns(2, 1, 0) + x.reigns(2, 0, 0), 2);
        due("anew from today", days(x, 3).reigns(2, 1, 1) + x.reigns(2, 0, 1), 8);
        due("while a general reigns", days(x, 5).reigns(2, 1, 1) + x.reigns(2, 0, 1), 8);
        due("x as it was", x.count(16), 0);
        x.seed(MOST_INT);
        x.reigns(20, 0, 1);
        due("x as it was", x.count(16), MOST_INT);
        ThroneSale forced = told(one, "bid 0");
        forced.force(0);
        due("without a rule", forced.reigns(2, 0, 0), 1);
        sentence("REIGNS of a BIDDER what 0: how often, 1: DAYS. NONE without these.");
        ThroneSale four = told("empire 0 1" + times(";bidder 0 0", 4));
        due("all that win of 20", four.reigns(20, 0, 0) + four.reigns(20, 1, 0) + four.reigns(20, 2, 0)
                + four.reigns(20, 3, 0), 20 - below(0, 1, 4));
        for (int what = 0; what < 2; what++) {
            int w = what;
            without("reigns m", m -> four.reigns(m, 0, w), 1, 20, NONE);
            without("reigns of four", bidder -> four.reigns(1, bidder, w), 0, 3, NONE);
            without("reigns of two", bidder -> rich().reigns(1, bidder, w), 0, 1, NONE);
            without("reigns of none", bidder -> told("empire 0 1").reigns(1, bidder, w), 0, -1, NONE);
            due("without an empire", bare().reigns(1, 0, what), NONE);
        }
        without("reigns", what -> four.reigns(1, 0, what), 0, 1, NONE);
    }

    /** A GENERAL of one man comes on DAY 180 and twice as many DAYS as said here. */
    private static String far(int days) {
        return "empire 0 1;bidder 0 0;general 4 1 0;road 0 1 30;road 1 2 30;road 2 3 30;road 3 4 " + days;
    }

    private static void counts(String of, ThroneSale x, int... want) {
        for (int what = 0; what < want.length; what++) {
            due("count " + what + " of " + of, x.count(what), want[what]);
        }
    }

    private static void allCounts() {
        sentence("16: x, 17: bytes of the TAPE (without an EMPIRE 0 to 5, 8, 10, 11, 14, 15: 0, 12: 100). NONE for others.");
        counts("a new object", new ThroneSale(), 0, 0, 0, 0, 0, 0, 0, NONE, 0, NONE, 0, 0, 100, NONE, 0, 0, 0, 0);
        counts("without an empire", bare(), 0, 0, 0, 0, 0, 0, 1, 0, 0, NONE, 0, 0, 100, NONE, 0, 0, 5, 8);
        ThroneSale gone = bare();
        tell(gone, ROME);
        gone.sell();
        days(gone, 3);
        gone.thin();
        gone.log(1, 1);
        gone.back(3);
        counts("back without one", gone, 0, 0, 0, 0, 0, 0, 1, 0, 0, NONE, 0, 0, 100, NONE, 0, 0, 5, 0);
        due("no empire to sell", gone.sell(), -2);
        due("no city", gone.way(0, 0, 0), -3);
        due("no band", gone.band(0, 0), NONE);
        due("no bidder", gone.bidder(0, 0), NONE);
        due("no general", gone.general(0, 0), -2);
        counts("a bit of everything", rich(), 11, 5, 2, 2, 2, 2, 2, 1, 2, 1, 10, 200, 90, 0, 2, 5, 77, 19);
        without("count", rich()::count, 0, 17, NONE);
        without("count of a new object", new ThroneSale()::count, 0, 17, NONE);
    }

    private static void images() {
        sentence("An IMAGE is made: the DAY; NONE for another k (it is made also where nothing was told yet).");
        for (int k = 0; k < 4; k++) {
            ThroneSale x = new ThroneSale();
            due("where nothing was told", x.image(k), 0);
            tell(x, ROME);
            due("back there", x.back(k), 0);
            due("nothing is told", x.sale(0), -2);
            days(rebuilt(x), 3);
            due("day", x.image(k), 3);
            due("and as another one", x.image((k + 1) % 4), 3);
            days(x, 2);
            due("made anew", x.image(k), 5);
            due("the other one stays", x.back((k + 1) % 4), 3);
            due("the new one", x.back(k), 5);
        }
        for (int k : new int[] {LEAST_INT, -1, 4, 5, MOST_INT}) {
            refused("image " + k, Sentences::rich, x -> x.image(k), NONE);
            refused("image of a new object " + k, ThroneSale::new, x -> x.image(k), NONE);
        }
    }

    private static ThroneSale rebuilt(ThroneSale x) {
        due("told", tell(x, ROME), 2);
        return x;
    }

    private static void backs() {
        sentence("IMAGES 0 to 3: all but the RULES and the TAPE, as it is (the RULE IN FORCE, what can be UNDONE, too);"
                + " gone back to, it is as it was (these stay).");
        sentence("All is as in an IMAGE: the DAY;");
        ThroneSale x = rich();
        x.end(0);
        x.image(0);
        String then = whole(imaged());
        x.force(NONE);
        x.seed(1);
        x.log(NONE, 0);
        x.log(50, 1);
        x.log(51, 11);
        x.kill();
        days(x, 7);
        x.undo();
        due("another empire", tell(x, "empire 9999 9;guard 1 1 1;bidder 5 5;general 7 7 7"), 1);
        x.thin();
        due("back", x.back(0), 2);
        due("all is as it was", whole(x).equals(then) ? 1 : 0, 1);
        ThroneSale y = rich();
        y.image(0);
        due("a rule told then", tellRule(y, "bid 1"), 2);
        feed(y, "bid 1 if");
        y.back(0);
        due("rules stay", y.count(6), 3);
        due("the tape stays", y.count(17), 8);
        due("as it is", y.rule(), fault(8, 0));
        ThroneSale full = days(rome(), 25);
        full.image(1);
        due("undo one", full.undo(), 19);
        days(full, 30);
        due("back", full.back(1), 25);
        for (int i = 19; i >= 0; i--) {
            due("undo", full.undo(), i);
            due("day", full.count(8), 5 + i);
        }
        due("none can", full.undo(), -2);
        due("back once more", full.back(1), 25);
        due("can", full.count(15), 20);
        sentence("NONE, and nothing happens, if it was never made, or without it.");
        for (int k : new int[] {LEAST_INT, -1, 0, 3, 4, 5, MOST_INT}) {
            refused("back to " + k, Sentences::rich, z -> z.back(k), NONE);
            refused("back in a new object " + k, ThroneSale::new, z -> z.back(k), NONE);
        }
        due("one that was made", rich().back(1), 0);
        due("one that was made", rich().back(2), 2);
    }

    private static ThroneSale imaged() {
        ThroneSale x = rich();
        x.end(0);
        x.image(0);
        return x;
    }

    public static void main(String[] args) {
        open();
        logs();
        ruledBy();
        lookOn();
        seeds();
        drawnReigns();
        allCounts();
        images();
        backs();
        close();
    }
}
