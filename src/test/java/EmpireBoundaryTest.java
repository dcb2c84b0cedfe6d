import java.util.function.ToIntFunction;

/** The bounds that the document names of the text of an EMPIRE, and of its FAULTS. */
public final class EmpireBoundaryTest extends Sentences {
    private static final String HEAD = "empire 1 1";

    private static void length() {
        sentence("An EMPIRE is a text of at most 400 bytes");
        due("400 bytes", tell(new ThroneSale(), filled(HEAD, 400)), 0);
        String late = times(" ", 399 - HEAD.length()) + HEAD + " ";
        due("400 bytes, blanks first", tell(new ThroneSale(), late), 0);
        String last = filled(HEAD, 391) + ";road 0 1";
        empireFault(last, 400, 0);
        due("the last byte counts", tell(new ThroneSale(), filled(HEAD, 389) + ";road 0 1 2"), 0);
        empireFault("", 0, 0);
        empireFault(" ", 1, 0);
        empireFault(filled("", 400), 400, 0);
        empireFault(times(";", 400), 0, 0);
    }

    private static void clauses() {
        sentence("CLAUSE { ; CLAUSE }, 40 at most");
        String all = HEAD + times(";guard 1 1 1", 6) + times(";bidder 1 1", 4) + times(";general 1 1 1", 4)
                + times(";road 0 1 1", 8);
        ThroneSale x = told(all);
        due("all that there can be", x.count(2) + x.count(3) + x.count(4) + x.count(5), 22);
        due("one alone", tell(new ThroneSale(), HEAD), 0);
        empireFault(";" + HEAD, 0, 0);
        empireFault(HEAD + ";", HEAD.length() + 1, 0);
        empireFault(HEAD + ";;guard 1 1 1", HEAD.length() + 1, 0);
        empireFault(HEAD + " guard 1 1 1", HEAD.length() + 1, 0);
        empireFault(HEAD + ",guard 1 1 1", HEAD.length(), 0);
        empireFault(HEAD + times(";", 60), HEAD.length() + 1, 0);
    }

    /** A NUMBER with these words ahead of it and behind it, from the least to the most. */
    private static void numbers(String ahead, String behind, int low, int high, ToIntFunction<ThroneSale> read) {
        for (int n : new int[] {low, low + 1, high - 1, high}) {
            due(ahead + n + behind, read.applyAsInt(told(ahead + n + behind)), n);
        }
        String five = String.format("%05d", high);
        due(ahead + five + behind, read.applyAsInt(told(ahead + five + behind)), high);
        if (low > 0) {
            empireFault(ahead + (low - 1) + behind, ahead.length(), 1);
        }
        empireFault(ahead + "-1" + behind, ahead.length(), 0);
        empireFault(ahead + "x" + behind, ahead.length(), 0);
        empireFault(ahead + (high + 1) + behind, ahead.length(), 1);
        empireFault(ahead + "99999" + behind, ahead.length(), 1);
        empireFault(ahead + "0" + five + behind, ahead.length(), 1);
        // 2 to the 32nd and 1, which would be 1 if it went round.
        empireFault(ahead + "4294967297" + behind, ahead.length(), 1);
    }

    /** The CITY that has this many DAYS to CITY 3. */
    private static int cityAt(ThroneSale x, int days) {
        for (int city = 0; city < 8; city++) {
            if (x.way(city, 3, 0) == days) {
                return city;
            }
        }
        return NONE;
    }

    private static void headNumbers() {
        sentence("TREASURY 0 to 9999;");
        numbers("empire ", " 1", 0, 9999, x -> x.count(0));
        sentence("JUMP 1 to 9;");
        numbers("empire 1 ", "", 1, 9, x -> x.count(1));
    }

    private static void guardNumbers() {
        sentence("(a BAND of MEN, 1 to 30;");
        numbers(HEAD + ";guard ", " 1 1", 1, 30, x -> x.band(0, 0));
        sentence("LEAST 0 to 100, of a hundred of what was bid;");
        numbers(HEAD + ";guard 1 ", " 1", 0, 100, x -> x.band(0, 1));
        sentence("PATIENCE 0 to 60 days)");
        numbers(HEAD + ";guard 1 1 ", "", 0, 60, x -> x.band(0, 2));
    }

    private static void bidderNumbers() {
        sentence("(PURSE 0 to 9999;");
        numbers(HEAD + ";bidder ", " 1", 0, 9999, x -> x.bidder(0, 0));
        sentence("DARE 0 to 99)");
        numbers(HEAD + ";bidder 1 ", "", 0, 99, x -> x.bidder(0, 1));
    }

    private static void generalNumbers() {
        sentence("(a CITY, 0 to 7;");
        numbers(HEAD + ";general ", " 1 1", 0, 7, x -> x.general(0, 0));
        sentence("MEN 1 to 200;");
        numbers(HEAD + ";general 1 ", " 1", 1, 200, x -> x.general(0, 1));
        sentence("PRICE 0 to 999)");
        numbers(HEAD + ";general 1 1 ", "", 0, 999, x -> x.general(0, 2));
    }

    private static void roadNumbers() {
        sentence("(two CITIES;");
        numbers(HEAD + ";road ", " 3 9", 0, 7, x -> cityAt(x, 9));
        numbers(HEAD + ";road 3 ", " 9", 0, 7, x -> cityAt(x, 9));
        sentence("DAYS 1 to 30)");
        numbers(HEAD + ";road 0 1 ", "", 1, 30, x -> x.way(0, 1, 0));
        sentence("(of road the second CITY, if it is the first)");
        for (int city = 0; city < 8; city++) {
            empireFault(HEAD + ";road " + city + " " + city + " 1", HEAD.length() + 8, 1);
            empireFault(HEAD + ";road " + city + "   0" + city + " 0", HEAD.length() + 10, 1);
        }
        empireFault(HEAD + ";road 8 8 1", HEAD.length() + 6, 1);
        // The same CITY as in the road before is none of this road's.
        due("of another road", told(HEAD + ";road 1 2 1;road 2 1 1").count(5), 2);
    }

    /** So many CLAUSES of a sort, and one more. */
    private static void most(String clause, int most, int what) {
        for (int n = 0; n <= most; n++) {
            due(n + " of " + clause, told(HEAD + times(";" + clause, n)).count(what), n);
        }
        String text = HEAD + times(";" + clause, most);
        empireFault(text + ";" + clause, text.length() + 1, 4);
        empireFault(text + "   ;  " + clause, text.length() + 6, 4);
        empireFault(text + ";" + clause.substring(0, clause.indexOf(' ')), text.length() + 1, 4);
        empireFault(text + ";" + clause.replace(" ", "x "), text.length() + 1, 0);
    }

    private static void rows() {
        sentence("BANDS 0 to 5, BIDDERS 0 to 3, GENERALS 0 to 3, ROADS 0 to 7, in the order told;");
        ThroneSale x = told(HEAD + ";road 0 1 4;general 1 11 1;guard 1 1 1;bidder 21 1;general 1 12 1;guard 2 1 1"
                + ";bidder 22 1;guard 3 1 1;bidder 23 1;general 1 13 1;bidder 24 1;guard 4 1 1;guard 5 1 1"
                + ";general 1 14 1;guard 6 1 1;road 1 2 5");
        for (int i = 0; i < 6; i++) {
            due("band " + i, x.band(i, 0), i + 1);
        }
        for (int i = 0; i < 4; i++) {
            due("bidder " + i, x.bidder(i, 0), 21 + i);
            due("general " + i, x.general(i, 1), 11 + i);
        }
        due("roads", x.way(0, 2, 0), 9);
        sentence("a seventh BAND,");
        most("guard 1 1 1", 6, 2);
        sentence("a fifth BIDDER,");
        most("bidder 1 1", 4, 3);
        sentence("a fifth GENERAL,");
        most("general 1 1 1", 4, 4);
        sentence("a ninth ROAD (at its first byte).");
        most("road 1 2 1", 8, 5);
        due("a road of the ends of all", told(HEAD + times(";road 1 2 1", 7) + ";road 0 7 3").way(7, 0, 0), 3);
    }

    private static void order() {
        sentence("once, the first CLAUSE)");
        sentence("a second empire, another CLAUSE ahead of it,");
        empireFault(HEAD + ";" + HEAD, HEAD.length() + 1, 4);
        empireFault(HEAD + ";guard 1 1 1;  empire", HEAD.length() + 15, 4);
        for (String first : new String[] {"guard 1 1 1", "bidder 1 1", "general 1 1 1", "road 1 2 1", "guard"}) {
            empireFault(first + ";" + HEAD, 0, 4);
            empireFault("  " + first, 2, 4);
        }
        sentence("CITY 0 is where the throne is. It is DAY 0; nobody reigns; coin is FINE 100.");
        ThroneSale x = told(HEAD + ";general 0 1 1;general 1 1 1;road 0 1 1");
        due("first", x.first(0), 0);
        due("days", x.first(1), 0);
        due("day", x.count(8), 0);
        due("nobody", x.count(9), NONE);
        due("fine", x.count(12), 100);
        due("sold", x.count(13), NONE);
    }

    private static void faults() {
        sentence("0 a byte or WORD that can't stand there, or the end (behind the last byte);");
        for (int end = 0; end < HEAD.length() - 1; end++) {
            // Up to the last letter the word is another one; behind it the end comes too early.
            empireFault(HEAD.substring(0, end), end < 6 ? 0 : end, 0);
        }
        empireFault(HEAD + "   ;   ", HEAD.length() + 7, 0);
        String[] clauses = {"guard 1 1 1", "bidder 1 1", "general 1 1 1", "road 1 2 1"};
        for (String clause : clauses) {
            String text = HEAD + ";" + clause;
            empireFault(text.substring(0, text.length() - 1), text.length() - 1, 0);
            empireFault(text.substring(0, text.length() - 2), text.length() - 2, 0);
            empireFault(text + " 1", text.length() + 1, 0);
            empireFault(text + "x", text.length(), 0);
            empireFault(HEAD + ";" + clause.replace(" 1", " a"), HEAD.length() + 1 + clause.indexOf('1'), 0);
        }
        for (String other : new String[] {"bid 1", "Empire 1 1", "empirE 1 1", "empires 1 1", "emp ire 1 1", "1 1",
            "purse 1 1", "not", "if", "xempire 1 1", "[empire 1 1"}) {
            empireFault(other, 0, 0);
        }
        for (int sign = 0; sign < 256; sign++) {
            boolean isPart = sign == ' ' || sign >= '0' && sign <= '9' || sign == ';';
            if (!isPart) {
                empireFault("empire 1" + (char) sign + "1", 8, 0);
                empireFault(HEAD + (char) sign, HEAD.length(), 0);
            }
        }
        sentence("1 a NUMBER of more digits, or not as told");
        empireFault("empire 100000 1", 7, 1);
        empireFault("empire 000000 1", 7, 1);
        empireFault("empire   123456789012345678901234567890 1", 9, 1);
        due("five digits", told("empire 00000 00001").count(1), 1);
        empireFault("empire " + times("9", 393), 7, 1);
    }

    private static void firstFault() {
        sentence("FAULTS, the first along the text, 1 + 8 * its place and:");
        due("place 0", tell(new ThroneSale(), ""), -3);
        due("place 1", tell(new ThroneSale(), " 1"), -11);
        due("place 400", tell(new ThroneSale(), filled("empire 1", 400)), -2 - 1 - 3200);
        empireFault("empire 10000 10;guard 0 0 0;x", 7, 1);
        empireFault("empire 9999 10;guard 0 0 0;x", 12, 1);
        empireFault("empire 9999 9;guard 0 0 0;x", 20, 1);
        empireFault("empire 9999 9;guard 1 0 0;x", 26, 0);
        empireFault("empire 9999 9 0;guard 0", 14, 0);
        sentence("Of one place the least.");
        empireFault("guards 1 1 1;empire 1 1", 0, 0);
        empireFault(HEAD + ";empires 1 1", HEAD.length() + 1, 0);
        empireFault(HEAD + times(";guard 1 1 1", 6) + ";guarda", HEAD.length() + 6 * 12 + 1, 0);
        // A word where a NUMBER should be, a NUMBER of too many digits where none should be.
        empireFault("empire empire 1", 7, 0);
        empireFault(HEAD + " 1000000", HEAD.length() + 1, 0);
        empireFault("1000000 1", 0, 0);
    }

    public static void main(String[] args) {
        open();
        length();
        clauses();
        headNumbers();
        guardNumbers();
        bidderNumbers();
        generalNumbers();
        roadNumbers();
        rows();
        order();
        faults();
        firstFault();
        close();
    }
}
