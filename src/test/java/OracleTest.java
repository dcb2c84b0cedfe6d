import java.util.ArrayDeque;
import java.util.ArrayList;
import java.util.Arrays;
import java.util.Comparator;
import java.util.List;
import java.util.Random;
import java.util.TreeMap;

/**
 * Runs of calls drawn at random (always the same ones), each answered by the class and by a second model, told
 * here as plainly as the document tells it: no row is used twice, nothing is remembered, all is tried.
 */
public final class OracleTest {
    private static final int RUNS = 2500;
    private static final int CALLS = 90;

    @SuppressWarnings("serial")
    private static final class Fault extends RuntimeException {
        final int number;

        Fault(int place, int kind) {
            super(null, null, false, false);
            number = 1 + 8 * place + kind;
        }
    }

    /** What a VALUE or a FACT is for a BIDDER in a SALE. */
    private interface Part {
        long in(TreeMap<String, Long> words);
    }

    private record Clause(Part sum, Part test) {
    }

    /** Goes along a text. */
    private static final class Reader {
        final String text;
        int at = 0;
        int parts = 0;

        Reader(String text) {
            this.text = text;
        }

        void blanks() {
            while (at < text.length() && text.charAt(at) == ' ') {
                at++;
            }
        }

        String run(String signs) {
            blanks();
            int to = at;
            while (to < text.length() && signs.indexOf(text.charAt(to)) >= 0) {
                to++;
            }
            return text.substring(at, to);
        }

        String word() {
            return run("abcdefghijklmnopqrstuvwxyz");
        }

        boolean take(String sign) {
            blanks();
            boolean isThere = Character.isLetter(sign.charAt(0)) ? word().equals(sign) : text.startsWith(sign, at);
            at += isThere ? sign.length() : 0;
            return isThere;
        }

        int number(int low, int high, int not) {
            String digits = run("0123456789");
            if (digits.isEmpty()) {
                throw new Fault(at, 0);
            }
            if (digits.length() > 5 || Integer.parseInt(digits) < low || Integer.parseInt(digits) > high
                    || Integer.parseInt(digits) == not) {
                throw new Fault(at, 1);
            }
            at += digits.length();
            return Integer.parseInt(digits);
        }

        boolean another() {
            blanks();
            if (at == text.length()) {
                return false;
            }
            if (!take(";")) {
                throw new Fault(at, 0);
            }
            blanks();
            return true;
        }

        List<Clause> rule() {
            List<Clause> clauses = new ArrayList<>();
            blanks();
            do {
                if (!word().equals("bid")) {
                    throw new Fault(at, 0);
                }
                if (clauses.size() == 12) {
                    throw new Fault(at, 4);
                }
                take("bid");
                Part sum = sum();
                clauses.add(new Clause(sum, take("if") ? or(0) : null));
            } while (another());
            return clauses;
        }

        Part or(int depth) {
            Part a = and(depth);
            if (!take("or")) {
                return a;
            }
            Part b = or(depth);
            return w -> a.in(w) + b.in(w) > 0 ? 1 : 0;
        }

        Part and(int depth) {
            Part a = fact(depth);
            if (!take("and")) {
                return a;
            }
            Part b = and(depth);
            return w -> a.in(w) * b.in(w);
        }

        Part fact(int depth) {
            blanks();
            int start = at;
            boolean not = take("not");
            if (not || take("[")) {
                if (depth == 10) {
                    throw new Fault(start, 2);
                }
                Part a = not ? fact(depth + 1) : or(depth + 1);
                if (!not && !take("]")) {
                    throw new Fault(at, 0);
                }
                return not ? w -> 1 - a.in(w) : a;
            }
            Part a = sum();
            blanks();
            start = at;
            for (String sign : List.of("<=", ">=", "<", "=", ">")) {
                if (take(sign)) {
                    countPart(start);
                    Part b = sum();
                    return w -> {
                        int c = Long.compare(a.in(w), b.in(w));
                        String is = c < 0 ? "<" : c > 0 ? ">" : "=";
                        return sign.contains(is) ? 1 : 0;
                    };
                }
            }
            throw new Fault(at, 0);
        }

        void countPart(int place) {
            parts++;
            if (parts > 60) {
                throw new Fault(place, 3);
            }
        }

        Part sum() {
            Part a = term();
            while (true) {
                Part left = a;
                if (take("+")) {
                    Part b = term();
                    a = w -> left.in(w) + b.in(w);
                } else if (take("-")) {
                    Part b = term();
                    a = w -> left.in(w) - b.in(w);
                } else {
                    return a;
                }
            }
        }

        Part term() {
            Part a = value();
            while (true) {
                Part left = a;
                if (take("*")) {
                    Part b = value();
                    a = w -> left.in(w) * b.in(w);
                } else if (take("/")) {
                    Part b = value();
                    a = w -> b.in(w) == 0 ? 0 : left.in(w) / b.in(w);
                } else if (take("%")) {
                    Part b = value();
                    a = w -> b.in(w) == 0 ? 0 : left.in(w) % b.in(w);
                } else {
                    return a;
                }
            }
        }

        Part value() {
            String word = word();
            int start = at;
            if (word.isEmpty()) {
                long n = number(0, 99999, -1);
                countPart(start);
                return w -> n;
            }
            if (!WORDS.contains(word)) {
                throw new Fault(at, 0);
            }
            countPart(start);
            at += word.length();
            return w -> w.get(word);
        }
    }

    private static final List<String> WORDS = List.of("bidder", "purse", "dare", "high", "holder", "jump", "men",
            "treasury", "turn", "out", "day");

    /** An EMPIRE as told. */
    private static final class Told {
        int treasury;
        int jump;
        final List<int[]> guards = new ArrayList<>();
        final List<int[]> bidders = new ArrayList<>();
        final List<int[]> generals = new ArrayList<>();
        final List<int[]> roads = new ArrayList<>();

        static Told of(String text) {
            Told told = new Told();
            Reader r = new Reader(text);
            int clauses = 0;
            r.blanks();
            do {
                String word = r.word();
                List<int[]> rows = switch (word) {
                    case "guard" -> told.guards;
                    case "bidder" -> told.bidders;
                    case "general" -> told.generals;
                    case "road" -> told.roads;
                    default -> null;
                };
                if (rows == null && !word.equals("empire")) {
                    throw new Fault(r.at, 0);
                }
                int most = word.equals("guard") ? 6 : word.equals("road") ? 8 : 4;
                if (clauses == 0 != word.equals("empire") || clauses == 40 || rows != null && rows.size() == most) {
                    throw new Fault(r.at, 4);
                }
                r.take(word);
                if (rows == null) {
                    told.treasury = r.number(0, 9999, -1);
                    told.jump = r.number(1, 9, -1);
                } else {
                    rows.add(row(r, word));
                }
                clauses++;
            } while (r.another());
            return told;
        }

        static int[] row(Reader r, String word) {
            switch (word) {
                case "guard":
                    return new int[] {r.number(1, 30, -1), r.number(0, 100, -1), r.number(0, 60, -1)};
                case "bidder":
                    return new int[] {r.number(0, 9999, -1), r.number(0, 99, -1)};
                case "general":
                    return new int[] {r.number(0, 7, -1), r.number(1, 200, -1), r.number(0, 999, -1)};
                default:
                    int from = r.number(0, 7, -1);
                    return new int[] {from, r.number(0, 7, from), r.number(1, 30, -1)};
            }
        }

        /** -1: there is no way. By walks of at most so many roads. */
        int way(int from, int to, int roadsLeft) {
            int best = from == to ? 0 : -1;
            for (int[] road : roads) {
                for (int end = 0; end < 2 && roadsLeft > 0 && from != to; end++) {
                    if (road[end] == from) {
                        int rest = way(road[1 - end], to, roadsLeft - 1);
                        best = rest >= 0 && (best < 0 || rest + road[2] < best) ? rest + road[2] : best;
                    }
                }
            }
            return best;
        }

        /** By the roads one after the other, again and again: -1 where there is no way. */
        int[] waysTo(int to) {
            int[] days = new int[8];
            Arrays.fill(days, -1);
            days[to] = 0;
            for (int again = 0; again < 8; again++) {
                for (int[] road : roads) {
                    for (int end = 0; end < 2; end++) {
                        int a = road[end];
                        int b = road[1 - end];
                        if (days[a] >= 0 && (days[b] < 0 || days[b] > days[a] + road[2])) {
                            days[b] = days[a] + road[2];
                        }
                    }
                }
            }
            return days;
        }
    }

    /** How it stands. */
    private static final class State {
        Told told;
        int[] toThrone;
        int treasury;
        int fine = 100;
        int day;
        int who = -1;
        int price;
        int paid;
        int sold = -1;
        boolean[] left = new boolean[6];
        boolean[] bribed = new boolean[4];
        boolean[] beaten = new boolean[4];
        int[] purse = new int[4];

        static State of(Told told) {
            State s = new State();
            s.told = told;
            s.toThrone = told.waysTo(0);
            s.treasury = told.treasury;
            for (int i = 0; i < told.bidders.size(); i++) {
                s.purse[i] = told.bidders.get(i)[0];
            }
            return s;
        }

        State copy() {
            State s = new State();
            s.told = told;
            s.toThrone = toThrone;
            s.treasury = treasury;
            s.fine = fine;
            s.day = day;
            s.who = who;
            s.price = price;
            s.paid = paid;
            s.sold = sold;
            s.left = left.clone();
            s.bribed = bribed.clone();
            s.beaten = beaten.clone();
            s.purse = purse.clone();
            return s;
        }

        int men() {
            int sum = 0;
            for (int i = 0; i < told.guards.size(); i++) {
                sum += left[i] ? 0 : told.guards.get(i)[0];
            }
            return sum;
        }

        boolean free(int g) {
            return !bribed[g] && !beaten[g] && who != 10 + g;
        }

        int march(int g) {
            int days = toThrone[told.generals.get(g)[0]];
            return days < 0 ? -1 : 2 * days;
        }

        int comes(int g) {
            return sold < 0 || march(g) < 0 ? -1 : sold + march(g);
        }

        void pass() {
            if (who >= 0 && who < 10) {
                int men = men();
                if (paid < 100 * price && men > 0 && treasury + purse[who] >= men) {
                    for (int coin = 0; coin < men; coin++) {
                        if (treasury > 0) {
                            treasury--;
                        } else {
                            purse[who]--;
                        }
                    }
                    paid += fine;
                }
                for (int i = 0; i < told.guards.size(); i++) {
                    int[] guard = told.guards.get(i);
                    left[i] = left[i] || day > sold + guard[2] && paid < guard[1] * price;
                }
            }
            for (int g = 0; g < told.generals.size(); g++) {
                if (free(g) && comes(g) == day && sold >= 0) {
                    int there = who < 0 ? 0 : who < 10 ? men() : told.generals.get(who - 10)[1];
                    if (told.generals.get(g)[1] > there) {
                        who = 10 + g;
                        Arrays.fill(left, true);
                    } else {
                        beaten[g] = true;
                    }
                }
            }
            day++;
        }

        /** Of so many DAYS from now on those at whose end this one reigns. */
        int reignOf(int whose, int days) {
            State s = copy();
            int sum = 0;
            for (int i = 0; i < days; i++) {
                s.pass();
                sum += s.who == whose ? 1 : 0;
            }
            return sum;
        }

        State after(int days) {
            State s = copy();
            for (int i = 0; i < days; i++) {
                s.pass();
            }
            return s;
        }

        State crowned(int winner, int bid) {
            State s = copy();
            s.who = winner;
            s.price = bid;
            s.sold = day;
            s.paid = 0;
            return s;
        }

        void thinCoin() {
            treasury = Math.min(99999, treasury * fine / (fine - 10));
            fine -= 10;
        }

        /** Who, how much, how many bids. */
        int[] sale(List<Clause> rule, int[] dares) {
            int n = told.bidders.size();
            boolean[] out = new boolean[n];
            long high = 0;
            int holder = -1;
            int asked = 0;
            int b = -1;
            while (true) {
                int in = 0;
                for (boolean o : out) {
                    in += o ? 0 : 1;
                }
                if (in == 0 || in == 1 && holder >= 0) {
                    return new int[] {holder, (int) high, asked};
                }
                do {
                    b = (b + 1) % n;
                } while (out[b]);
                long bid = high + told.jump <= dares[b] ? high + told.jump : 0;
                if (rule != null) {
                    bid = 0;
                    TreeMap<String, Long> words = new TreeMap<>();
                    long[] values = {b, purse[b], dares[b], high, holder, told.jump, men(), treasury, asked, n - in,
                        day};
                    for (int i = 0; i < values.length; i++) {
                        words.put(WORDS.get(i), values[i]);
                    }
                    for (Clause clause : rule) {
                        if (clause.test == null || clause.test.in(words) != 0) {
                            bid = clause.sum.in(words);
                            break;
                        }
                    }
                }
                asked++;
                if (bid <= 999 && bid >= high + told.jump) {
                    high = bid;
                    holder = b;
                } else {
                    out[b] = true;
                }
            }
        }

        int[] dares() {
            return told.bidders.stream().mapToInt(b -> b[1]).toArray();
        }
    }

    /** All that an IMAGE holds. */
    private static final class Whole {
        State state;
        int force = -1;
        int x;
        ArrayDeque<State> past = new ArrayDeque<>();
        List<int[]> logs = new ArrayList<>();

        Whole copy() {
            Whole w = new Whole();
            w.state = state == null ? null : state.copy();
            w.force = force;
            w.x = x;
            w.past = new ArrayDeque<>(past);
            w.logs = new ArrayList<>(logs);
            return w;
        }
    }

    /** The second model. */
    private static final class Model {
        Whole now = new Whole();
        final Whole[] images = new Whole[4];
        final List<List<Clause>> rules = new ArrayList<>();
        String tape = "";

        int feed(int[] fours) {
            if (tape.length() > 380) {
                return -1;
            }
            StringBuilder more = new StringBuilder(tape);
            for (int four : fours) {
                for (int i = 3; i >= 0; i--) {
                    more.append((char) (four >>> 8 * i & 255));
                }
            }
            tape = more.toString();
            return tape.length();
        }

        int end(int n) {
            if (n < 0 || n > tape.length()) {
                return -1;
            }
            tape = tape.substring(0, n);
            return n;
        }

        int empire() {
            String text = tape;
            tape = "";
            try {
                now.state = State.of(Told.of(text));
            } catch (Fault fault) {
                return -2 - fault.number;
            }
            now.past.clear();
            now.logs.clear();
            return now.state.told.guards.size();
        }

        int rule() {
            if (rules.size() == 6) {
                return -1;
            }
            String text = tape;
            tape = "";
            try {
                rules.add(new Reader(text).rule());
            } catch (Fault fault) {
                return -2 - fault.number;
            }
            return rules.size() - 1;
        }

        int force(int rule) {
            if (rule < -1 || rule >= rules.size()) {
                return -2;
            }
            int was = now.force;
            now.force = rule;
            return was;
        }

        boolean isTold() {
            return now.state != null;
        }

        boolean isRow(List<int[]> rows, int i) {
            return i >= 0 && i < rows.size();
        }

        int band(int band, int what) {
            if (!isTold() || !isRow(now.state.told.guards, band) || what < 0 || what > 3) {
                return -1;
            }
            return what == 3 ? now.state.left[band] ? 1 : 0 : now.state.told.guards.get(band)[what];
        }

        int bidder(int bidder, int what) {
            if (!isTold() || !isRow(now.state.told.bidders, bidder) || what < 0 || what > 2) {
                return -1;
            }
            int[] answers = {now.state.purse[bidder], now.state.told.bidders.get(bidder)[1],
                now.state.who == bidder ? 1 : 0};
            return answers[what];
        }

        int general(int general, int what) {
            if (!isTold() || !isRow(now.state.told.generals, general) || what < 0 || what > 5) {
                return -2;
            }
            int[] g = now.state.told.generals.get(general);
            int[] answers = {g[0], g[1], g[2], now.state.bribed[general] ? 1 : 0, now.state.beaten[general] ? 1 : 0,
                now.state.comes(general)};
            return answers[what];
        }

        State act() {
            now.past.addLast(now.state.copy());
            if (now.past.size() > 20) {
                now.past.removeFirst();
            }
            return now.state;
        }

        int day() {
            if (!isTold() || now.state.day == 999) {
                return -2;
            }
            act().pass();
            return now.state.who;
        }

        int[] saleNow() {
            return now.state.sale(now.force < 0 ? null : rules.get(now.force), now.state.dares());
        }

        int sell() {
            if (!isTold() || now.state.who >= 0) {
                return -2;
            }
            int[] sale = saleNow();
            if (sale[0] >= 0) {
                act();
                now.state = now.state.crowned(sale[0], sale[1]);
            }
            return sale[0];
        }

        int bribe(int g) {
            if (!isTold() || !isRow(now.state.told.generals, g) || !now.state.free(g)
                    || now.state.told.generals.get(g)[2] > now.state.treasury) {
                return -1;
            }
            act().bribed[g] = true;
            now.state.treasury -= now.state.told.generals.get(g)[2];
            return now.state.treasury;
        }

        int thin() {
            if (!isTold() || now.state.fine == 10) {
                return -1;
            }
            act().thinCoin();
            return now.state.treasury;
        }

        int kill() {
            if (!isTold() || now.state.who < 0) {
                return -1;
            }
            State s = act();
            int was = s.who;
            if (was < 10) {
                s.purse[was] = 0;
            } else {
                s.beaten[was - 10] = true;
            }
            s.who = -1;
            return was;
        }

        int undo() {
            if (now.past.isEmpty()) {
                return -2;
            }
            now.state = now.past.removeLast().copy();
            return now.past.size();
        }

        int sale(int what) {
            return !isTold() || what < 0 || what > 2 ? -2 : saleNow()[what];
        }

        int ahead(int n, int what) {
            if (!isTold() || n < 0 || n > 200 || what < 0 || what > 3) {
                return -2;
            }
            State s = now.state.after(n);
            return new int[] {s.who, s.men(), s.paid, s.treasury}[what];
        }

        int fall(int what) {
            if (what < 0 || what > 1 || !isTold() || now.state.who < 0) {
                return -3;
            }
            for (int n = 1; n <= 200; n++) {
                State s = now.state.after(n);
                if (s.who != now.state.who) {
                    return what == 0 ? s.day - 1 : s.who;
                }
            }
            return -2;
        }

        int reign(int bidder, int what) {
            if (!isTold() || !isRow(now.state.told.bidders, bidder) || what < 0 || what > 1 || now.state.who >= 0) {
                return -1;
            }
            int best = 0;
            int most = -1;
            for (int dare = 0; dare < 100; dare++) {
                int[] dares = now.state.dares();
                dares[bidder] = dare;
                int[] sale = now.state.sale(null, dares);
                int days = sale[0] == bidder ? now.state.crowned(bidder, sale[1]).reignOf(bidder, 200) : 0;
                if (days > most) {
                    most = days;
                    best = dare;
                }
            }
            return what == 0 ? best : most;
        }

        int bribes(int what) {
            if (!isTold() || what < 0 || what > 1 || now.state.who < 0) {
                return -1;
            }
            List<int[]> sets = new ArrayList<>();
            for (int set = 0; set < 1 << now.state.told.generals.size(); set++) {
                State s = now.state.copy();
                boolean can = true;
                int price = 0;
                for (int g = 0; g < s.told.generals.size(); g++) {
                    if ((set & 1 << g) != 0) {
                        price += s.told.generals.get(g)[2];
                        can = can && s.free(g);
                        s.bribed[g] = true;
                    }
                }
                s.treasury -= price;
                if (can && s.treasury >= 0) {
                    sets.add(new int[] {set, s.reignOf(s.who, 200), price});
                }
            }
            sets.sort(Comparator.<int[]>comparingInt(s -> -s[1]).thenComparingInt(s -> s[2])
                    .thenComparingInt(s -> s[0]));
            return sets.get(0)[what];
        }

        int way(int from, int to, int what) {
            if (!isTold() || from < 0 || from > 7 || to < 0 || to > 7 || what < 0 || what > 1) {
                return -3;
            }
            int days = now.state.told.way(from, to, 7);
            if (days <= 0 || what == 0) {
                return days < 0 ? -2 : what == 0 ? 0 + days : -1;
            }
            for (int next = 0; next < 8; next++) {
                for (int[] road : now.state.told.roads) {
                    boolean leads = road[0] == from && road[1] == next || road[1] == from && road[0] == next;
                    int rest = now.state.told.way(next, to, 7);
                    if (leads && rest >= 0 && rest + road[2] == days) {
                        return next;
                    }
                }
            }
            return -99;
        }

        List<Integer> comers() {
            List<Integer> comers = new ArrayList<>();
            for (int g = 0; g < now.state.told.generals.size(); g++) {
                if (now.state.free(g) && now.state.march(g) >= 0) {
                    comers.add(g);
                }
            }
            comers.sort(Comparator.<Integer>comparingInt(g -> now.state.march(g)).thenComparingInt(g -> g));
            return comers;
        }

        int first(int what) {
            if (!isTold() || what < 0 || what > 1) {
                return -3;
            }
            List<Integer> comers = comers();
            return comers.isEmpty() ? -2 : what == 0 ? comers.get(0) : now.state.march(comers.get(0));
        }

        int[] gains(int set) {
            int there = now.state.men();
            int[] gains = {1, 1, 1, 1};
            int holder = -1;
            for (int g : comers()) {
                if ((set & 1 << g) != 0) {
                    int men = now.state.told.generals.get(g)[1];
                    gains[g] = 0;
                    if (men > there) {
                        holder = g;
                    }
                    there = Math.abs(men - there);
                }
            }
            if (holder >= 0) {
                gains[holder] = 2;
            }
            return gains;
        }

        int rests(int what) {
            if (!isTold() || what < 0 || what > 1) {
                return -1;
            }
            List<Integer> comers = comers();
            int count = 0;
            int least = -2;
            for (int set = 15; set >= 0; set--) {
                int in = 0;
                boolean rests = true;
                for (int g : comers) {
                    in |= set & 1 << g;
                    rests = rests && gains(set)[g] >= gains(set ^ 1 << g)[g];
                }
                if (rests && in == set) {
                    count++;
                    least = set;
                }
            }
            return what == 0 ? count : least;
        }

        int holds(int n) {
            if (!isTold() || n < 1 || n > 60 || now.state.who < 0) {
                return -1;
            }
            for (int treasury = 0; treasury <= 9900; treasury += 100) {
                State s = now.state.copy();
                s.treasury = treasury;
                if (s.reignOf(s.who, n) == n) {
                    return treasury;
                }
            }
            return -2;
        }

        int halves(int what) {
            if (!isTold() || what < 0 || what > 1) {
                return -1;
            }
            int best = 0;
            int least = 0;
            for (int set = 63; set > 0; set--) {
                int apart = 0;
                boolean can = true;
                int first = -1;
                for (int i = 0; i < 6; i++) {
                    boolean in = (set & 1 << i) != 0;
                    boolean is = i < now.state.told.guards.size() && !now.state.left[i];
                    can = can && (is || !in);
                    first = is && first < 0 ? i : first;
                    apart += is ? now.state.told.guards.get(i)[0] * (in ? 1 : -1) : 0;
                }
                apart = Math.abs(apart);
                if (can && (set & 1 << first) != 0 && (best == 0 || apart <= least)) {
                    best = set;
                    least = apart;
                }
            }
            return what == 0 ? least : best;
        }

        int thinnest(int n) {
            if (!isTold() || n < 1 || n > 60 || now.state.who < 0) {
                return -1;
            }
            for (int times = Math.min(9, now.state.fine / 10 - 1); times >= 0; times--) {
                State s = now.state.copy();
                for (int i = 0; i < times; i++) {
                    s.thinCoin();
                }
                if (s.reignOf(s.who, n) == n) {
                    return times;
                }
            }
            return -2;
        }

        int log(int n, int who) {
            if (n == -1) {
                now.logs.clear();
                return 0;
            }
            if (!isTold() || n < 0 || n > 60 || now.logs.size() == 10 || who != -1
                    && !isRow(now.state.told.bidders, who) && !isRow(now.state.told.generals, who - 10)) {
                return -2;
            }
            now.logs.add(new int[] {n, who});
            return now.logs.size();
        }

        /** Who reigned by each of the RULES that fit; by none at -1. */
        TreeMap<Integer, int[]> fitting() {
            TreeMap<Integer, int[]> fitting = new TreeMap<>();
            for (int rule = -1; rule < rules.size(); rule++) {
                State s = State.of(now.state.told);
                int[] sale = s.sale(rule < 0 ? null : rules.get(rule), s.dares());
                s = sale[0] < 0 ? s : s.crowned(sale[0], sale[1]);
                int[] rulers = new int[61];
                for (int day = 0; day <= 60; day++) {
                    s.pass();
                    rulers[day] = s.who;
                }
                if (now.logs.stream().allMatch(log -> rulers[log[0]] == log[1])) {
                    fitting.put(rule, rulers);
                }
            }
            return fitting;
        }

        int ruled(int what) {
            if (!isTold() || what < 0 || what > 1) {
                return -3;
            }
            TreeMap<Integer, int[]> fitting = fitting();
            return what == 0 ? fitting.size() : fitting.isEmpty() ? -2 : fitting.firstKey();
        }

        int look(int what) {
            if (!isTold() || what < 0 || what > 1) {
                return -1;
            }
            TreeMap<Integer, int[]> fitting = fitting();
            if (fitting.isEmpty()) {
                return -2;
            }
            int best = -1;
            int fewest = 99;
            for (int day = 0; day <= 60; day++) {
                TreeMap<Integer, Integer> groups = new TreeMap<>();
                for (int[] rulers : fitting.values()) {
                    groups.merge(rulers[day], 1, Integer::sum);
                }
                int most = groups.values().stream().mapToInt(n -> n).max().orElse(0);
                if (most < fewest) {
                    fewest = most;
                    best = day;
                }
            }
            return what == 0 ? best : fewest;
        }

        int seed(int x) {
            if (x < 0) {
                return -1;
            }
            int was = now.x;
            now.x = x;
            return was;
        }

        int reigns(int m, int bidder, int what) {
            if (!isTold() || m < 1 || m > 20 || !isRow(now.state.told.bidders, bidder) || what < 0 || what > 1) {
                return -1;
            }
            long x = now.x;
            int wins = 0;
            int days = 0;
            for (int i = 0; i < m; i++) {
                int[] dares = now.state.dares();
                for (int b = 0; b < dares.length; b++) {
                    x = (x * 1103515245L + 12345L) % 2147483648L;
                    dares[b] = (int) (x / 65536 % 100);
                }
                int[] sale = now.state.sale(null, dares);
                if (sale[0] == bidder) {
                    wins++;
                    days += now.state.crowned(bidder, sale[1]).reignOf(bidder, 200);
                }
            }
            return what == 0 ? wins : days;
        }

        int count(int what) {
            State s = now.state == null ? State.of(new Told()) : now.state;
            int[] answers = {s.treasury, s.told.jump, s.told.guards.size(), s.told.bidders.size(),
                s.told.generals.size(), s.told.roads.size(), rules.size(), now.force, s.day, s.who, s.men(), s.paid,
                s.fine, s.sold, now.logs.size(), now.past.size(), now.x, tape.length()};
            return what < 0 || what >= answers.length ? -1 : answers[what];
        }

        int image(int k) {
            if (k < 0 || k > 3) {
                return -1;
            }
            images[k] = now.copy();
            return count(8);
        }

        int back(int k) {
            if (k < 0 || k > 3 || images[k] == null) {
                return -1;
            }
            now = images[k].copy();
            return count(8);
        }
    }

    /** Draws texts. */
    private static final class Teller {
        final Random random;

        Teller(Random random) {
            this.random = random;
        }

        int upTo(int n) {
            return random.nextInt(n + 1);
        }

        /** Now and then from a few numbers alone, so that some are as many as others. */
        int men(int most) {
            return random.nextInt(3) == 0 ? 5 * (1 + upTo(3)) : 1 + upTo(most);
        }

        String blank() {
            return random.nextInt(12) == 0 ? "  " : "";
        }

        String empire() {
            int cities = 2 + upTo(4);
            List<String> clauses = new ArrayList<>();
            for (int i = upTo(6); i > 0; i--) {
                clauses.add("guard " + men(29) + " " + upTo(100) + " " + upTo(random.nextBoolean() ? 60 : 9));
            }
            for (int i = random.nextInt(8) == 0 ? 0 : 1 + upTo(3); i > 0; i--) {
                clauses.add("bidder " + upTo(random.nextBoolean() ? 9999 : 300) + " "
                        + upTo(random.nextBoolean() ? 99 : 20));
            }
            for (int i = upTo(4); i > 0; i--) {
                clauses.add("general " + upTo(cities) + " " + men(random.nextBoolean() ? 199 : 40) + " "
                        + upTo(random.nextBoolean() ? 999 : 90));
            }
            for (int i = upTo(8); i > 0; i--) {
                int from = upTo(cities);
                clauses.add("road " + from + " " + (from + 1 + upTo(cities - 1)) % (cities + 1) + " "
                        + (1 + upTo(random.nextBoolean() ? 29 : 5)));
            }
            if (random.nextBoolean()) {
                java.util.Collections.shuffle(clauses, random);
            }
            StringBuilder text = new StringBuilder("empire " + upTo(random.nextBoolean() ? 9999 : 500) + " "
                    + (1 + upTo(8)));
            for (String clause : clauses) {
                text.append(blank()).append(';').append(blank()).append(clause);
            }
            return spoil(text);
        }

        String rule() {
            StringBuilder text = new StringBuilder();
            for (int i = random.nextInt(6) == 0 ? 11 + upTo(2) : 1 + upTo(3); i > 0; i--) {
                text.append("bid ");
                if (random.nextInt(3) > 0) {
                    text.append("high+jump").append(random.nextBoolean() ? "+" : " ");
                    if (text.charAt(text.length() - 1) == '+') {
                        sum(text);
                    }
                } else {
                    sum(text);
                }
                if (random.nextInt(3) > 0) {
                    text.append(" if ");
                    test(text, 0);
                }
                text.append(i > 1 ? ";" : "").append(blank());
            }
            return spoil(text);
        }

        void test(StringBuilder text, int depth) {
            int facts = 1 + upTo(2) / 2 + upTo(1);
            for (int i = 0; i < facts; i++) {
                text.append(i == 0 ? "" : random.nextBoolean() ? " and " : " or ");
                fact(text, depth);
            }
        }

        void fact(StringBuilder text, int depth) {
            int kind = random.nextInt(depth > 12 ? 1 : 5);
            if (kind == 4) {
                text.append(blank()).append("[");
                test(text, depth + 1);
                text.append("]").append(blank());
            } else if (kind == 3) {
                text.append("not ");
                fact(text, depth + (random.nextInt(9) == 0 ? 3 : 1));
            } else {
                sum(text);
                text.append(List.of("<", "<=", "=", ">=", ">").get(upTo(4))).append(blank());
                sum(text);
            }
        }

        void sum(StringBuilder text) {
            for (int i = upTo(2); i >= 0; i--) {
                text.append(random.nextBoolean() ? WORDS.get(upTo(10))
                        : "" + upTo(List.of(3, 20, 1000, 99999).get(upTo(3))));
                text.append(i == 0 ? "" : blank() + "+-*/%".charAt(upTo(4)) + blank());
            }
        }

        String spoil(StringBuilder text) {
            String signs = " ;[]<=>+-*/%0123456789abdefginotrux\0\u00ffA,";
            for (int i = random.nextInt(3) == 0 ? 1 + upTo(2) : 0; i > 0 && text.length() > 1; i--) {
                int at = random.nextInt(text.length());
                char sign = signs.charAt(random.nextInt(signs.length()));
                switch (random.nextInt(4)) {
                    case 0 -> text.setCharAt(at, sign);
                    case 1 -> text.insert(at, sign);
                    case 2 -> text.deleteCharAt(at);
                    default -> text.insert(at, text.substring(at, Math.min(text.length(), at + upTo(30))));
                }
            }
            return text.substring(0, Math.min(text.length(), 400));
        }
    }

    private static final class Run {
        final Random random;
        final Teller teller;
        final ThroneSale x = new ThroneSale();
        final Model model = new Model();
        final StringBuilder told = new StringBuilder();
        boolean wrong = false;

        Run(int number) {
            random = new Random(number);
            teller = new Teller(random);
        }

        void same(String call, int got, int want) {
            told.append(call).append(" -> ").append(got).append('\n');
            if (got != want) {
                wrong = true;
                told.append("   but due is ").append(want).append('\n');
            }
        }

        void tell(String text) {
            told.append("text \"").append(text).append("\"\n");
            for (int i = 0; i < text.length(); i += 20) {
                int[] f = new int[5];
                for (int j = 0; j < 20 && i + j < text.length(); j++) {
                    f[j / 4] |= text.charAt(i + j) << 24 - 8 * (j % 4);
                }
                same("feed", x.feed(f[0], f[1], f[2], f[3], f[4]), model.feed(f));
            }
            same("end " + text.length(), x.end(text.length()), model.end(text.length()));
        }

        /** From 0 to most, now and then a little beside. */
        int some(int most) {
            return random.nextInt(25) == 0 ? random.nextInt(most + 5) - 2 : random.nextInt(most + 1);
        }

        void act() {
            switch (random.nextInt(16)) {
                case 0, 1, 2, 3, 4, 5 -> same("day", x.day(), model.day());
                case 6, 7, 8 -> same("sell", x.sell(), model.sell());
                case 9 -> {
                    int g = some(3);
                    same("bribe " + g, x.bribe(g), model.bribe(g));
                }
                case 10 -> same("thin", x.thin(), model.thin());
                case 11 -> same("kill", x.kill(), model.kill());
                case 12 -> same("undo", x.undo(), model.undo());
                case 13 -> {
                    int days = random.nextInt(25);
                    for (int i = 0; i < days; i++) {
                        same("day", x.day(), model.day());
                    }
                }
                case 14 -> {
                    int k = some(3);
                    same("image " + k, x.image(k), model.image(k));
                }
                default -> {
                    int k = some(3);
                    same("back " + k, x.back(k), model.back(k));
                }
            }
        }

        void change() {
            switch (random.nextInt(9)) {
                case 0 -> {
                    tell(teller.empire());
                    same("empire", x.empire(), model.empire());
                }
                case 1, 2 -> {
                    tell(teller.rule());
                    same("rule", x.rule(), model.rule());
                    x.end(0);
                    model.end(0);
                }
                case 3, 4 -> {
                    int rule = some(6) - 1;
                    same("force " + rule, x.force(rule), model.force(rule));
                }
                case 5 -> {
                    int seed = random.nextInt();
                    same("seed " + seed, x.seed(seed), model.seed(seed));
                }
                default -> {
                    int n = random.nextInt(9) == 0 ? -1 : some(60);
                    int who = random.nextBoolean() ? some(13) - 1 : x.ahead(1, 0);
                    same("log " + n + " " + who, x.log(n, who), model.log(n, who));
                }
            }
        }

        void ask() {
            int what = some(1);
            int n = 1 + some(59);
            int b = some(3);
            switch (random.nextInt(19)) {
                case 0 -> same("band " + n % 6 + " " + b, x.band(n % 6, b), model.band(n % 6, b));
                case 1 -> same("bidder " + b + " " + n % 4, x.bidder(b, n % 4), model.bidder(b, n % 4));
                case 2 -> same("general " + b + " " + n % 7, x.general(b, n % 7), model.general(b, n % 7));
                case 3 -> same("sale " + b, x.sale(b), model.sale(b));
                case 4 -> same("ahead " + 4 * n + " " + b, x.ahead(4 * n, b), model.ahead(4 * n, b));
                case 5 -> same("fall " + what, x.fall(what), model.fall(what));
                case 6 -> same("reign " + b + " " + what, x.reign(b, what), model.reign(b, what));
                case 7 -> same("bribes " + what, x.bribes(what), model.bribes(what));
                case 8, 9 -> {
                    int from = some(7);
                    int to = some(7);
                    same("way " + from + " " + to + " " + what, x.way(from, to, what), model.way(from, to, what));
                }
                case 10 -> same("first " + what, x.first(what), model.first(what));
                case 11 -> same("rests " + what, x.rests(what), model.rests(what));
                case 12 -> same("holds " + n, x.holds(n), model.holds(n));
                case 13 -> same("halves " + what, x.halves(what), model.halves(what));
                case 14 -> same("thinnest " + n, x.thinnest(n), model.thinnest(n));
                case 15 -> same("ruled " + what, x.ruled(what), model.ruled(what));
                case 16 -> same("look " + what, x.look(what), model.look(what));
                case 17 -> same("reigns " + n % 22 + " " + b + " " + what, x.reigns(n % 22, b, what),
                        model.reigns(n % 22, b, what));
                default -> {
                    for (int i = -1; i < 19; i++) {
                        same("count " + i, x.count(i), model.count(i));
                    }
                }
            }
        }

        void go() {
            tell(teller.empire());
            same("empire", x.empire(), model.empire());
            for (int i = 0; i < CALLS && !wrong; i++) {
                int kind = random.nextInt(10);
                if (kind < 3) {
                    act();
                } else if (kind < 4) {
                    change();
                } else {
                    ask();
                }
            }
            for (int i = 0; i < 18; i++) {
                same("count " + i, x.count(i), model.count(i));
            }
        }
    }

    public static void main(String[] args) {
        for (int number = 0; number < RUNS; number++) {
            Run run = new Run(number);
            run.go();
            if (run.wrong) {
                System.out.println("run " + number + "\n" + run.told);
                System.exit(1);
            }
        }
        System.out.println(RUNS + " runs are answered alike");
    }
}
