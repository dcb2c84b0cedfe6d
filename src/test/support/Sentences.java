import java.io.IOException;
import java.nio.file.Files;
import java.nio.file.Path;
import java.util.function.IntUnaryOperator;
import java.util.function.Supplier;
import java.util.function.ToIntFunction;

/** Runs told by hand, each under the words of the document that it tries; the words must stand there. */
abstract class Sentences {
    static final int NONE = ThroneSale.NONE;
    static final int LEAST_INT = Integer.MIN_VALUE;
    static final int MOST_INT = Integer.MAX_VALUE;
    /** Men 10 and 5; the first BIDDER wins for 15; GENERALS come on DAYS 4 and 10. */
    static final String ROME = "empire 100 5;guard 10 50 2;guard 5 100 0;bidder 40 20;bidder 20 12;"
            + "general 1 8 60;general 2 20 30;road 0 1 2;road 1 2 3";

    private static String document = "";
    private static String words = "";
    private static int sentences = 0;
    private static int wrong = 0;

    /** Without the document the runs are still good, but nobody can see that the words are its own. */
    static void open() {
        try {
            document = Files.readString(Path.of("../shared/DOC.md")).replaceAll("\\s+", " ");
        } catch (IOException e) {
            System.out.println("../shared/DOC.md is not there, so the words are not looked up");
        }
    }

    /** All that follows, up to the next one, tries these words of the document. */
    static void sentence(String quoted) {
        words = quoted;
        sentences++;
        if (!document.isEmpty() && !document.contains(quoted)) {
            fail("the document has no such words");
        }
    }

    static void fail(String what) {
        wrong++;
        System.out.println("\"" + words + "\": " + what);
    }

    static void due(String call, long got, long want) {
        if (got != want) {
            fail(call + " answered " + got + ", due is " + want);
        }
    }

    static void close() {
        System.out.println(wrong == 0 ? sentences + " sentences hold" : wrong + " answers are not as due");
        if (wrong != 0) {
            System.exit(1);
        }
    }

    static String times(String part, int n) {
        return part.repeat(n);
    }

    /** The text blown up to so many bytes by blanks. */
    static String filled(String text, int length) {
        return text + times(" ", length - text.length());
    }

    static void feed(ThroneSale x, String text) {
        int[] fours = new int[(text.length() + 19) / 20 * 5];
        for (int i = 0; i < text.length(); i++) {
            fours[i / 4] |= text.charAt(i) << 24 - i % 4 * 8;
        }
        for (int i = 0; i < fours.length; i += 5) {
            x.feed(fours[i], fours[i + 1], fours[i + 2], fours[i + 3], fours[i + 4]);
        }
        x.end(text.length());
    }

    static int tell(ThroneSale x, String text) {
        x.end(0);
        feed(x, text);
        return x.empire();
    }

    static int tellRule(ThroneSale x, String text) {
        x.end(0);
        feed(x, text);
        return x.rule();
    }

    static ThroneSale told(String text, String... rules) {
        ThroneSale x = new ThroneSale();
        for (String rule : rules) {
            due("rule \"" + rule + "\" stands", tellRule(x, rule) >= 0 ? 1 : 0, 1);
        }
        due("empire \"" + text + "\" stands", tell(x, text) >= 0 ? 1 : 0, 1);
        return x;
    }

    /** SOLD by the last RULE of these, or by none. */
    static ThroneSale sold(String text, String... rules) {
        ThroneSale x = told(text, rules);
        x.force(rules.length - 1);
        due("sell of \"" + text + "\"", x.sell() >= 0 ? 1 : 0, 1);
        return x;
    }

    static ThroneSale days(ThroneSale x, int n) {
        for (int i = 0; i < n; i++) {
            x.day();
        }
        return x;
    }

    static ThroneSale thinned(ThroneSale x, int n) {
        for (int i = 0; i < n; i++) {
            x.thin();
        }
        return x;
    }

    /** The answer for a FAULT of this kind at this place. */
    static int fault(int place, int kind) {
        return -2 - (1 + 8 * place + kind);
    }

    static void empireFault(String text, int place, int kind) {
        due("empire \"" + text + "\"", tell(new ThroneSale(), text), fault(place, kind));
    }

    static void ruleFault(String text, int place, int kind) {
        due("rule \"" + text + "\"", tellRule(new ThroneSale(), text), fault(place, kind));
    }

    static void ruleStands(String text) {
        due("rule \"" + text + "\"", tellRule(new ThroneSale(), text), 0);
    }

    /** Of a sole BIDDER with PURSE 30 and DARE 20 in a SALE (TREASURY 70, JUMP 1, 10 men); 0: not taken. */
    static void bids(String rule, int want) {
        ThroneSale x = told("empire 70 1;guard 6 0 0;guard 4 0 0;bidder 30 20", rule);
        x.force(0);
        due("price by \"" + rule + "\"", x.sale(1), want);
    }

    static void sale(String what, ThroneSale x, int who, int price, int asked) {
        due(what + ": who", x.sale(0), who);
        due(what + ": how much", x.sale(1), price);
        due(what + ": how many bids", x.sale(2), asked);
    }

    /** What a call answers for numbers just and far beside those that there are. */
    static void without(String call, IntUnaryOperator asked, int low, int high, int want) {
        for (int n : new int[] {low - 1, high + 1, high + 2, LEAST_INT, MOST_INT}) {
            due(call + " for " + n, asked.applyAsInt(n), want);
        }
    }

    /** A call that is refused leaves all as it is in an object to which the same was done, but for that call. */
    static void refused(String call, Supplier<ThroneSale> maker, ToIntFunction<ThroneSale> refusal, int want) {
        ThroneSale x = maker.get();
        due(call, refusal.applyAsInt(x), want);
        String got = whole(x);
        String all = whole(maker.get());
        if (!got.equals(all)) {
            fail(call + " left " + got + ", due is " + all);
        }
    }

    /** A bit of everything: a BIDDER reigns, and one GENERAL is BRIBED. */
    static ThroneSale rich() {
        ThroneSale x = told(ROME, "bid 7", "bid high+jump if high<20");
        x.image(1);
        x.force(1);
        x.seed(77);
        x.log(0, 0);
        x.log(4, 10);
        x.sell();
        days(x, 2);
        x.image(2);
        x.bribe(0);
        x.thin();
        feed(x, "bid 5 if day<3; but");
        return x;
    }

    /** Likewise, and nobody reigns. */
    static ThroneSale orphaned() {
        ThroneSale x = rich();
        x.kill();
        return x;
    }

    /** Nothing is told but RULES, and an IMAGE is made. */
    static ThroneSale bare() {
        ThroneSale x = new ThroneSale();
        tellRule(x, "bid 7");
        x.force(0);
        x.seed(5);
        x.image(3);
        feed(x, "empire 5");
        return x;
    }

    /** All that can be asked, then what can be UNDONE, the RULES, the IMAGES, the TAPE. It is used up by that. */
    static String whole(ThroneSale x) {
        StringBuilder all = new StringBuilder();
        addStanding(x, all);
        for (int i = 0; i < 21 && x.count(15) > 0; i++) {
            all.append(" undone ").append(x.undo());
            for (int what : new int[] {0, 8, 9, 10, 11, 12, 13}) {
                all.append(' ').append(x.count(what));
            }
        }
        for (int rule = 0; rule < x.count(6); rule++) {
            all.append(" forced ").append(x.force(rule)).append(' ').append(x.sale(1));
        }
        for (int k = 0; k < 4; k++) {
            all.append(" back ").append(x.back(k));
            addStanding(x, all);
        }
        return all.append(" tape ").append(x.empire()).toString();
    }

    private static void addStanding(ThroneSale x, StringBuilder all) {
        all.append(" counts");
        for (int what = 0; what < 18; what++) {
            all.append(' ').append(x.count(what));
        }
        for (int i = 0; i < 6; i++) {
            all.append(' ').append(x.band(i, 0)).append(' ').append(x.band(i, 3));
        }
        for (int i = 0; i < 4; i++) {
            all.append(' ').append(x.bidder(i, 0)).append(' ').append(x.bidder(i, 1));
            all.append(' ').append(x.general(i, 3)).append(' ').append(x.general(i, 4));
            all.append(' ').append(x.general(i, 5));
        }
        all.append(' ').append(x.sale(0)).append(' ').append(x.sale(1)).append(' ').append(x.ahead(9, 0));
        all.append(' ').append(x.ahead(9, 2)).append(' ').append(x.ruled(0)).append(' ').append(x.ruled(1));
    }
}
