import java.util.ArrayDeque;
import java.util.ArrayList;
import java.util.Arrays;
import java.util.HashMap;
import java.util.HashSet;
import java.util.List;
import java.util.Map;
import java.util.Set;
import java.util.TreeMap;
import java.util.regex.Matcher;
import java.util.regex.Pattern;

/**
 * The document told a second time, as plainly and slowly as can be, with the whole Java library:
 * RandomRunsTest asks it and BothKnow the same things.
 */
final class Oracle {
    private static final int DAY = -1;
    private static final Pattern TOKEN = Pattern.compile("[a-z]+|[0-9]+|[-;:+*()\\[\\]=<>]");

    /** What a law asks about. */
    private record Case(int twin, int fact, int kind, int known, int theirs, int bond) {
    }

    private interface Sum {
        long of(Case c);
    }

    private interface Truth {
        boolean of(Case c);
    }

    private static final class Fault extends RuntimeException {
        private static final long serialVersionUID = 1L;
        final int kind;
        final int place;

        Fault(int kind, int place) {
            this.kind = kind;
            this.place = place;
        }
    }

    private record Token(String text, int place) {
        boolean isNumber() {
            return !text.isEmpty() && Character.isDigit(text.charAt(0));
        }
    }

    private static final class House {
        List<Integer> kinds = new ArrayList<>();
        List<Map<Integer, Integer>> needs = new ArrayList<>();
        List<Set<Integer>> buts = new ArrayList<>();
        int bond;
        int lines;
        int[][] start = new int[2][4];
        Sum comes = c -> 2;
        Truth may = c -> true;
    }

    // ---- reading

    private static final class Text {
        private final String text;
        private int next;
        private Token token;
        private final House house = new House();
        private boolean inMay;

        Text(String text) {
            this.text = text;
        }

        House read() {
            advance();
            expect("house");
            expect(";");
            house.lines = 1;
            while (!token.text.isEmpty()) {
                line();
                expect(";");
                house.lines++;
            }
            return house;
        }

        private void advance() {
            while (next < text.length() && (text.charAt(next) == ' ' || text.charAt(next) == '\n')) {
                next++;
            }
            int from = next;
            if (from == text.length()) {
                token = new Token("", from);
                return;
            }
            Matcher found = TOKEN.matcher(text).region(from, text.length());
            if (!found.lookingAt() || found.group().matches("[0-9]{4,}")) {
                throw new Fault(1, from);
            }
            token = new Token(found.group(), from);
            next = found.end();
        }

        private boolean is(String wanted) {
            return token.text.equals(wanted);
        }

        private void expect(String wanted) {
            if (!is(wanted)) {
                throw new Fault(2, token.place);
            }
            advance();
        }

        private int number(int low, int high) {
            if (!token.isNumber()) {
                throw new Fault(2, token.place);
            }
            int n = Integer.parseInt(token.text);
            if (n < low || n > high) {
                throw new Fault(3, token.place);
            }
            advance();
            return n;
        }

        private int fact() {
            return number(0, house.kinds.size() - 1);
        }

        private void line() {
            String word = token.text;
            switch (word) {
                case "fact" -> {
                    if (house.kinds.size() == 4) {
                        throw new Fault(4, token.place);
                    }
                    advance();
                    int kind = 0;
                    while (is("kind")) {
                        advance();
                        kind = number(0, 9);
                    }
                    house.kinds.add(kind);
                }
                case "doing" -> doing();
                case "bond" -> {
                    advance();
                    house.bond = number(0, 9);
                }
                case "knows" -> {
                    advance();
                    int twin = number(0, 1);
                    int fact = fact();
                    house.start[twin][fact] = number(0, 3);
                }
                case "comes" -> {
                    advance();
                    expect(":");
                    inMay = false;
                    house.comes = sum(0);
                }
                case "may" -> {
                    advance();
                    expect(":");
                    inMay = true;
                    house.may = truth(0);
                }
                default -> throw new Fault(2, token.place);
            }
        }

        private void doing() {
            if (house.needs.size() == 6) {
                throw new Fault(4, token.place);
            }
            Map<Integer, Integer> needs = new TreeMap<>();
            Set<Integer> buts = new HashSet<>();
            advance();
            while (is("needs") || is("but")) {
                boolean but = is("but");
                advance();
                int fact = fact();
                needs.remove(fact);
                buts.remove(fact);
                if (but) {
                    buts.add(fact);
                } else {
                    expect("age");
                    needs.put(fact, number(1, 3));
                }
            }
            house.needs.add(needs);
            house.buts.add(buts);
        }

        private static long kept(long v) {
            return Math.max(-1_000_000L, Math.min(1_000_000L, v));
        }

        private Sum sum(int open) {
            Sum left = term(open);
            while (is("+") || is("-")) {
                boolean plus = is("+");
                advance();
                Sum a = left;
                Sum b = term(open);
                left = plus ? c -> kept(a.of(c) + b.of(c)) : c -> kept(a.of(c) - b.of(c));
            }
            return left;
        }

        private Sum term(int open) {
            Sum left = atom(open);
            while (is("*")) {
                advance();
                Sum a = left;
                Sum b = atom(open);
                left = c -> kept(a.of(c) * b.of(c));
            }
            return left;
        }

        private void deeper(int open) {
            if (open == 6) {
                throw new Fault(4, token.place);
            }
            advance();
        }

        private Sum atom(int open) {
            if (token.isNumber()) {
                int n = number(0, 999);
                return c -> n;
            }
            if (is("(")) {
                deeper(open);
                Sum inner = sum(open + 1);
                expect(")");
                return inner;
            }
            if (is("if")) {
                deeper(open);
                Truth asked = truth(open + 1);
                expect("then");
                Sum yes = sum(open + 1);
                expect("else");
                Sum no = sum(open + 1);
                expect("end");
                return c -> asked.of(c) ? yes.of(c) : no.of(c);
            }
            Token name = token;
            Sum found = switch (name.text) {
                case "twin" -> c -> c.twin;
                case "fact" -> c -> c.fact;
                case "kind" -> c -> c.kind;
                case "known" -> c -> c.known;
                case "theirs" -> c -> c.theirs;
                case "bond" -> inMay ? null : c -> c.bond;
                default -> null;
            };
            if (found == null) {
                throw new Fault(2, name.place);
            }
            advance();
            return found;
        }

        private Truth truth(int open) {
            Truth left = both(open);
            while (is("or")) {
                advance();
                Truth a = left;
                Truth b = both(open);
                left = c -> a.of(c) || b.of(c);
            }
            return left;
        }

        private Truth both(int open) {
            Truth left = unit(open);
            while (is("and")) {
                advance();
                Truth a = left;
                Truth b = unit(open);
                left = c -> a.of(c) && b.of(c);
            }
            return left;
        }

        private Truth unit(int open) {
            if (is("not")) {
                deeper(open);
                Truth inner = unit(open + 1);
                return c -> !inner.of(c);
            }
            if (is("[")) {
                deeper(open);
                Truth inner = truth(open + 1);
                expect("]");
                return inner;
            }
            Sum a = sum(open);
            String sign = token.text;
            if (!sign.equals("=") && !sign.equals("<") && !sign.equals(">")) {
                throw new Fault(2, token.place);
            }
            advance();
            Sum b = sum(open);
            return c -> sign.equals("=") ? a.of(c) == b.of(c) : sign.equals("<") ? a.of(c) < b.of(c) : a.of(c) > b.of(c);
        }
    }

    // ---- how all stands

    /** The ages of all and the bond; never changed, but copied. */
    private static final class State {
        final int[][] ages;
        final int bond;

        State(int[][] ages, int bond) {
            this.ages = new int[][] {ages[0].clone(), ages[1].clone()};
            this.bond = bond;
        }

        State with(int twin, int fact, int age) {
            State copy = new State(ages, bond);
            copy.ages[twin][fact] = age;
            return copy;
        }

        int known(int twin) {
            return (int) Arrays.stream(ages[twin]).filter(a -> a > 0).count();
        }

        String key() {
            return Arrays.toString(ages[0]) + Arrays.toString(ages[1]);
        }
    }

    private record Move(int deed, State to) {
    }

    private record Image(House house, State state) {
    }

    private final StringBuilder tape = new StringBuilder();
    private House house = new House();
    private int faultKind;
    private int faultPlace = -1;
    private State now = new State(new int[2][4], 0);
    private final List<State> past = new ArrayList<>();
    private final long[][] trays = new long[4][];
    private final int[] sorts = new int[4];
    private final Image[] images = new Image[2];

    private int facts() {
        return house.kinds.size();
    }

    private int doings() {
        return house.needs.size();
    }

    private boolean twinIs(int twin) {
        return twin == 0 || twin == 1;
    }

    private boolean factIs(int fact) {
        return fact >= 0 && fact < facts();
    }

    private boolean doingIs(int d) {
        return d >= 0 && d < doings();
    }

    private boolean setIs(int set) {
        return set >= 0 && set < 1 << doings();
    }

    private boolean doesIt(State s, int twin, int d) {
        for (Map.Entry<Integer, Integer> need : house.needs.get(d).entrySet()) {
            if (s.ages[twin][need.getKey()] < need.getValue()) {
                return false;
            }
        }
        for (int fact : house.buts.get(d)) {
            if (s.ages[twin][fact] > 0) {
                return false;
            }
        }
        return true;
    }

    private int doneBits(State s, int twin) {
        int bits = 0;
        for (int d = 0; d < doings(); d++) {
            bits |= doesIt(s, twin, d) ? 1 << d : 0;
        }
        return bits;
    }

    private int doneBoth(State s) {
        return Integer.bitCount(doneBits(s, 0)) + Integer.bitCount(doneBits(s, 1));
    }

    private boolean goal(State s, int first, int second) {
        return (doneBits(s, 0) | first) == doneBits(s, 0) && (doneBits(s, 1) | second) == doneBits(s, 1);
    }

    private boolean just(State s, int first, int second) {
        return doneBits(s, 0) == first && doneBits(s, 1) == second;
    }

    private State afterTelling(State s, int twin, int fact) {
        Case c = new Case(twin, fact, house.kinds.get(fact), s.known(twin), s.known(1 - twin), s.bond);
        if (!house.may.of(c)) {
            return null;
        }
        int comes = (int) Math.max(0, Math.min(3, house.comes.of(c)));
        return s.with(twin, fact, Math.max(1, s.ages[twin][fact]))
            .with(1 - twin, fact, Math.max(comes, s.ages[1 - twin][fact]));
    }

    private State afterDay(State s) {
        State later = new State(s.ages, s.bond);
        for (int[] row : later.ages) {
            for (int f = 0; f < 4; f++) {
                row[f] += row[f] == 1 || row[f] == 2 ? 1 : 0;
            }
        }
        return later;
    }

    private List<Move> moves(State s) {
        List<Move> all = new ArrayList<>();
        for (int twin = 0; twin < 2; twin++) {
            for (int fact = 0; fact < facts(); fact++) {
                State to = afterTelling(s, twin, fact);
                if (to != null) {
                    all.add(new Move(10 * twin + fact, to));
                }
            }
        }
        all.add(new Move(DAY, afterDay(s)));
        return all;
    }

    private int why;
    private State result;

    /** Does one deed from s; why and result tell of it. */
    private boolean deed(State s, long v) {
        why = 1;
        result = s;
        if (v == -1) {
            result = afterDay(s);
            why = 0;
        } else if (v >= 0 && v <= 19 && factIs((int) (v % 10))) {
            State to = afterTelling(s, (int) (v / 10), (int) (v % 10));
            why = to == null ? 3 : 0;
            result = to == null ? s : to;
        } else if (v >= 100 && v <= 119 && factIs((int) (v % 10))) {
            int twin = (int) ((v - 100) / 10);
            int fact = (int) (v % 10);
            why = s.ages[twin][fact] == 0 ? 2 : 0;
            result = s.with(twin, fact, 0);
        } else if (v >= 200 && v <= 209) {
            result = new State(s.ages, (int) v - 200);
            why = 0;
        }
        return why == 0;
    }

    private void become(State next) {
        past.add(now);
        if (past.size() > 10) {
            past.remove(0);
        }
        now = next;
    }

    /** What both would do behind deeds with a bond, or null where one of them can't be. */
    int[] setsBehind(int bond, long... deeds) {
        State s = new State(now.ages, bond);
        for (long v : deeds) {
            if (!deed(s, v)) {
                return null;
            }
            s = result;
        }
        return new int[] {doneBits(s, 0), doneBits(s, 1)};
    }

    // ---- the face

    int feed(int... words) {
        if (tape.length() + 20 > 900) {
            return -5;
        }
        for (int word : words) {
            for (int k = 3; k >= 0; k--) {
                tape.append((char) (word >>> 8 * k & 255));
            }
        }
        return tape.length();
    }

    int house(int n) {
        if (n < 0 || n > tape.length()) {
            return -3;
        }
        String text = tape.substring(0, n);
        tape.setLength(0);
        try {
            house = new Text(text).read();
        } catch (Fault f) {
            faultKind = f.kind;
            faultPlace = f.place;
            return -30 - f.kind;
        }
        faultKind = 0;
        faultPlace = -1;
        now = new State(house.start, house.bond);
        past.clear();
        return house.lines;
    }

    int fault(int what) {
        return what == 0 ? faultKind : what == 1 ? faultPlace : -1;
    }

    int age(int twin, int fact) {
        return twinIs(twin) && factIs(fact) ? now.ages[twin][fact] : -2;
    }

    int doing(int d, int what) {
        if (!doingIs(d)) {
            return -2;
        }
        int bits = 0;
        switch (what) {
            case 0:
                for (int f : house.needs.get(d).keySet()) {
                    bits |= 1 << f;
                }
                return bits;
            case 1:
                for (int f : house.buts.get(d)) {
                    bits |= 1 << f;
                }
                return bits;
            case 2:
                return (doesIt(now, 0, d) ? 1 : 0) + (doesIt(now, 1, d) ? 2 : 0);
            default:
                return what >= 10 && factIs(what - 10) ? house.needs.get(d).getOrDefault(what - 10, 0) : -2;
        }
    }

    int does(int twin) {
        return twinIs(twin) ? doneBits(now, twin) : -2;
    }

    int brings(int twin, int fact, int what) {
        if (!twinIs(twin) || !factIs(fact) || !twinIs(what)) {
            return -2;
        }
        State to = afterTelling(now, twin, fact);
        return to == null ? -5 : to.ages[what][fact];
    }

    int tell(int twin, int fact) {
        if (!twinIs(twin) || !factIs(fact)) {
            return -11;
        }
        State to = afterTelling(now, twin, fact);
        if (to == null) {
            return -13;
        }
        become(to);
        return now.ages[1 - twin][fact];
    }

    int days(int n) {
        if (n < 1 || n > 99) {
            return -3;
        }
        State s = now;
        for (int k = 0; k < n; k++) {
            s = afterDay(s);
        }
        become(s);
        return doneBoth(now);
    }

    int forget(int twin, int fact) {
        if (!twinIs(twin) || !factIs(fact)) {
            return -11;
        }
        int was = now.ages[twin][fact];
        if (was == 0) {
            return -12;
        }
        become(now.with(twin, fact, 0));
        return was;
    }

    int bond(int n) {
        if (n < 0 || n > 9) {
            return -11;
        }
        int was = now.bond;
        become(new State(now.ages, n));
        return was;
    }

    int undo(int n) {
        if (n < 1 || n > 10 || n > past.size()) {
            return -3;
        }
        for (int k = 0; k < n; k++) {
            now = past.remove(past.size() - 1);
        }
        return past.size();
    }

    private boolean trayIs(int tray) {
        return tray >= 0 && tray <= 3;
    }

    int judge(int tray, int what) {
        if (!trayIs(tray) || what < 0 || what > 3) {
            return -2;
        }
        if (trays[tray] == null) {
            return -6;
        }
        State s = now;
        int first = -1;
        int reason = 0;
        for (int k = 0; k < trays[tray].length && first < 0; k++) {
            if (deed(s, trays[tray][k])) {
                s = result;
            } else {
                first = k;
                reason = why;
            }
        }
        return what == 0 ? first : what == 1 ? reason : doneBits(s, what - 2);
    }

    int perform(int tray) {
        if (!trayIs(tray)) {
            return -2;
        }
        if (trays[tray] == null) {
            return -6;
        }
        State s = now;
        int done = 0;
        while (done < trays[tray].length && deed(s, trays[tray][done])) {
            s = result;
            done++;
        }
        if (done > 0) {
            become(s);
        }
        return done;
    }

    int year(int seed, int times) {
        if (times < 1 || times > 40) {
            return -3;
        }
        int[] x = {seed};
        java.util.function.IntUnaryOperator draw = m -> {
            x[0] = 1103515245 * x[0] + 12345;
            return (x[0] >>> 16) % m;
        };
        State s = now;
        int done = 0;
        for (int k = 0; k < times; k++) {
            int sort = draw.applyAsInt(6);
            long v;
            if (sort <= 3) {
                int twin = draw.applyAsInt(2);
                v = (sort == 3 ? 100 : 0) + 10 * twin + draw.applyAsInt(4);
            } else {
                v = sort == 4 ? -1 : 200 + draw.applyAsInt(10);
            }
            if (deed(s, v)) {
                s = result;
                done++;
            }
        }
        if (done > 0) {
            become(s);
        }
        return done;
    }

    private interface Wanted {
        boolean at(State s);
    }

    /** All rows, shortest first, in their order, leaving out those that come to ages already come to. */
    private List<Integer> shortest(Wanted wanted) {
        ArrayDeque<State> states = new ArrayDeque<>(List.of(now));
        ArrayDeque<List<Integer>> rows = new ArrayDeque<>();
        rows.add(List.of());
        Set<String> seen = new HashSet<>(Set.of(now.key()));
        while (!states.isEmpty()) {
            State s = states.remove();
            List<Integer> row = rows.remove();
            if (wanted.at(s)) {
                return row;
            }
            for (Move m : moves(s)) {
                if (seen.add(m.to.key())) {
                    List<Integer> longer = new ArrayList<>(row);
                    longer.add(m.deed);
                    states.add(m.to);
                    rows.add(longer);
                }
            }
        }
        return null;
    }

    private List<State> reached(int skippedTwin, int skippedFact) {
        List<State> all = new ArrayList<>(List.of(now));
        Set<String> seen = new HashSet<>(Set.of(now.key()));
        for (int k = 0; k < all.size(); k++) {
            for (Move m : moves(all.get(k))) {
                boolean skipped = m.deed != DAY && (m.deed / 10 == skippedTwin || m.deed % 10 == skippedFact);
                if (!skipped && seen.add(m.to.key())) {
                    all.add(m.to);
                }
            }
        }
        return all;
    }

    int soonest(int first, int second) {
        if (!setIs(first) || !setIs(second)) {
            return -3;
        }
        List<Integer> row = shortest(s -> goal(s, first, second));
        return row == null ? -1 : row.size();
    }

    private static int stepOf(List<Integer> row, int i) {
        return row == null || i >= row.size() ? -1 : row.get(i) == DAY ? 99 : row.get(i);
    }

    int way(int first, int second, int i) {
        if (!setIs(first) || !setIs(second) || i < 0) {
            return -3;
        }
        return stepOf(shortest(s -> goal(s, first, second)), i);
    }

    int alone(int twin, int d) {
        if (!twinIs(twin) || !doingIs(d)) {
            return -2;
        }
        List<Integer> row = shortest(s -> doesIt(s, twin, d) && !doesIt(s, 1 - twin, d));
        return row == null ? -1 : row.size();
    }

    int aloneWay(int twin, int d, int i) {
        if (!twinIs(twin) || !doingIs(d)) {
            return -2;
        }
        if (i < 0) {
            return -3;
        }
        return stepOf(shortest(s -> doesIt(s, twin, d) && !doesIt(s, 1 - twin, d)), i);
    }

    private long rowsFrom(State s, int first, int second, int n, Map<String, Long> memo) {
        if (n == 0) {
            return goal(s, first, second) ? 1 : 0;
        }
        String key = n + s.key();
        Long known = memo.get(key);
        if (known != null) {
            return known;
        }
        long all = 0;
        for (Move m : moves(s)) {
            all += rowsFrom(m.to, first, second, n - 1, memo);
        }
        memo.put(key, all);
        return all;
    }

    long rows(int first, int second, int n) {
        if (!setIs(first) || !setIs(second) || n < 0 || n > 12) {
            return -3;
        }
        return rowsFrom(now, first, second, n, new HashMap<>());
    }

    int needed(int first, int second) {
        if (!setIs(first) || !setIs(second)) {
            return -3;
        }
        if (reached(-1, -1).stream().noneMatch(s -> goal(s, first, second))) {
            return 0;
        }
        int bits = 0;
        for (int f = 0; f < facts(); f++) {
            if (reached(-1, f).stream().noneMatch(s -> goal(s, first, second))) {
                bits |= 1 << f;
            }
        }
        return bits;
    }

    int tellings(int first, int second) {
        if (!setIs(first) || !setIs(second)) {
            return -3;
        }
        // The cost of each ages is lessened till nothing changes any more.
        Map<String, Integer> cost = new HashMap<>(Map.of(now.key(), 0));
        ArrayDeque<State> open = new ArrayDeque<>(List.of(now));
        int least = Integer.MAX_VALUE;
        while (!open.isEmpty()) {
            State s = open.remove();
            int here = cost.get(s.key());
            if (goal(s, first, second)) {
                least = Math.min(least, here);
            }
            for (Move m : moves(s)) {
                int there = here + (m.deed == DAY ? 0 : 1);
                if (there < cost.getOrDefault(m.to.key(), Integer.MAX_VALUE)) {
                    cost.put(m.to.key(), there);
                    open.add(m.to);
                }
            }
        }
        return least == Integer.MAX_VALUE ? -1 : least;
    }

    int can(int twin) {
        return twinIs(twin) ? reached(-1, -1).stream().mapToInt(s -> doneBits(s, twin)).reduce(0, (a, b) -> a | b) : -2;
    }

    int stands() {
        return reached(-1, -1).size();
    }

    int most() {
        return reached(-1, -1).stream().mapToInt(this::doneBoth).max().getAsInt();
    }

    int secret(int fact) {
        if (!factIs(fact)) {
            return -2;
        }
        int bits = 0;
        for (int twin = 0; twin < 2; twin++) {
            State to = afterTelling(now, twin, fact);
            bits |= to != null && to.ages[1 - twin][fact] == 0 ? 1 << twin : 0;
        }
        return bits;
    }

    int overhears(int twin) {
        if (!twinIs(twin)) {
            return -2;
        }
        int bits = 0;
        for (State s : reached(twin, -1)) {
            for (int f = 0; f < facts(); f++) {
                bits |= now.ages[twin][f] == 0 && s.ages[twin][f] > 0 ? 1 << f : 0;
            }
        }
        return bits;
    }

    private int refusedTold(int tray, int first, int second) {
        if (!trayIs(tray)) {
            return -2;
        }
        if (trays[tray] == null) {
            return -6;
        }
        if (trays[tray].length < 1 || trays[tray].length > 10) {
            return -4;
        }
        boolean wrong = Arrays.stream(trays[tray]).anyMatch(v -> v < 0 || v >= facts());
        return wrong || !setIs(first) || !setIs(second) ? -3 : 0;
    }

    /** All rows of twins, in their order. */
    private List<int[]> witnesses(int tray, int first, int second) {
        int n = trays[tray].length;
        List<int[]> rows = new ArrayList<>();
        for (int mask = 0; mask < 1 << n; mask++) {
            int[] row = new int[n];
            State s = now;
            for (int k = 0; k < n && s != null; k++) {
                row[k] = mask >> n - 1 - k & 1;
                s = afterTelling(s, row[k], (int) trays[tray][k]);
                s = s == null ? null : afterDay(s);
            }
            if (s != null && just(s, first, second)) {
                rows.add(row);
            }
        }
        return rows;
    }

    int told(int tray, int first, int second) {
        int refused = refusedTold(tray, first, second);
        return refused != 0 ? refused : witnesses(tray, first, second).size();
    }

    int whom(int tray, int first, int second, int i) {
        int refused = refusedTold(tray, first, second);
        if (refused != 0 || i < 0) {
            return refused != 0 ? refused : -3;
        }
        List<int[]> rows = witnesses(tray, first, second);
        return rows.isEmpty() || i >= rows.get(0).length ? -1 : rows.get(0)[i];
    }

    int surely(int tray, int first, int second, int what) {
        if (!trayIs(tray) || !twinIs(what)) {
            return -2;
        }
        int refused = refusedTold(tray, first, second);
        if (refused != 0) {
            return refused;
        }
        List<int[]> rows = witnesses(tray, first, second);
        int bits = 0;
        for (int k = 0; k < trays[tray].length && !rows.isEmpty(); k++) {
            int place = k;
            bits |= rows.stream().allMatch(r -> r[place] == what) ? 1 << k : 0;
        }
        return bits;
    }

    private int refusedBonds(int tray, int first, int second) {
        if (!trayIs(tray)) {
            return -2;
        }
        if (trays[tray] == null) {
            return -6;
        }
        if (trays[tray].length < 1 || trays[tray].length > 12) {
            return -4;
        }
        for (long v : trays[tray]) {
            if (v != -1 && !(v >= 0 && v <= 19 && factIs((int) (v % 10)))) {
                return -3;
            }
        }
        return setIs(first) && setIs(second) ? 0 : -3;
    }

    int bonds(int tray, int first, int second) {
        int refused = refusedBonds(tray, first, second);
        if (refused != 0) {
            return refused;
        }
        int bits = 0;
        for (int b = 0; b < 10; b++) {
            State s = new State(now.ages, b);
            boolean all = true;
            for (long v : trays[tray]) {
                all = all && deed(s, v);
                s = result;
            }
            bits |= all && just(s, first, second) ? 1 << b : 0;
        }
        return bits;
    }

    int attempt(int tray, int first, int second) {
        int bits = bonds(tray, first, second);
        if (bits < 0) {
            return bits;
        }
        int deed = -1;
        int least = 99;
        for (Move m : moves(now)) {
            if (m.deed == DAY || bits == 0) {
                continue;
            }
            int twin = m.deed / 10;
            int fact = m.deed % 10;
            Map<Integer, Integer> groups = new HashMap<>();
            for (int b = 0; b < 10; b++) {
                if ((bits >> b & 1) != 0) {
                    groups.merge(afterTelling(new State(now.ages, b), twin, fact).ages[1 - twin][fact], 1, Integer::sum);
                }
            }
            int greatest = groups.values().stream().mapToInt(v -> v).max().getAsInt();
            if (greatest < least) {
                least = greatest;
                deed = m.deed;
            }
        }
        return deed;
    }

    private boolean forced(State s, int twin, int d, int left, boolean friend) {
        if (doesIt(s, twin, d)) {
            return true;
        }
        if (left == 0) {
            return false;
        }
        return friend ? moves(s).stream().anyMatch(m -> forced(m.to, twin, d, left - 1, false))
            : moves(s).stream().allMatch(m -> forced(m.to, twin, d, left - 1, true));
    }

    int forces(int twin, int d) {
        if (!twinIs(twin) || !doingIs(d)) {
            return -2;
        }
        for (int n = 0; n <= 6; n++) {
            if (forced(now, twin, d, n, true)) {
                return n;
            }
        }
        return -1;
    }

    int best(int twin, int d) {
        int n = forces(twin, d);
        if (n <= 0) {
            return n == -2 ? -2 : -1;
        }
        for (Move m : moves(now)) {
            if (forced(m.to, twin, d, n - 1, false)) {
                return m.deed == DAY ? 99 : m.deed;
            }
        }
        throw new IllegalStateException();
    }

    private long hits(State s, int twin, int d, int n) {
        if (n == 0) {
            return doesIt(s, twin, d) ? 1 : 0;
        }
        if (facts() == 0) {
            return hits(afterDay(s), twin, d, n - 1);
        }
        long all = 0;
        for (int t = 0; t < 2; t++) {
            for (int f = 0; f < facts(); f++) {
                State to = afterTelling(s, t, f);
                all += hits(afterDay(to == null ? s : to), twin, d, n - 1);
            }
        }
        return all;
    }

    int chance(int twin, int d, int n, int what) {
        if (!twinIs(twin) || !doingIs(d) || what < 0 || what > 1) {
            return -2;
        }
        if (n < 0 || n > 4) {
            return -3;
        }
        java.math.BigInteger above = java.math.BigInteger.valueOf(hits(now, twin, d, n));
        java.math.BigInteger below = java.math.BigInteger.valueOf(Math.max(1, 2 * facts())).pow(n);
        return (what == 0 ? above : below).divide(above.gcd(below)).intValue();
    }

    int likeliest(int twin, int n) {
        if (!twinIs(twin)) {
            return -2;
        }
        if (n < 0 || n > 4) {
            return -3;
        }
        int found = -1;
        long greatest = -1;
        for (int d = 0; d < doings(); d++) {
            long hits = hits(now, twin, d, n);
            if (hits > greatest) {
                greatest = hits;
                found = d;
            }
        }
        return found;
    }

    int numbers(int tray, int sort, int n) {
        if (!trayIs(tray) || sort < 0 || sort > 3) {
            return -2;
        }
        if (n < 0 || n > 40) {
            return -3;
        }
        trays[tray] = new long[n];
        sorts[tray] = sort;
        return 0;
    }

    long write(int tray, int i, long v) {
        if (!trayIs(tray)) {
            return -2;
        }
        if (trays[tray] == null) {
            return -6;
        }
        if (i < 0 || i >= trays[tray].length) {
            return -7;
        }
        int lost = 64 - (8 << sorts[tray]);
        trays[tray][i] = v << lost >> lost;
        return trays[tray][i];
    }

    int lists(int tray, int first, int second) {
        if (!trayIs(tray)) {
            return -2;
        }
        if (trays[tray] == null) {
            return -6;
        }
        if (!setIs(first) || !setIs(second)) {
            return -3;
        }
        List<Integer> row = shortest(s -> goal(s, first, second));
        if (row == null) {
            return -5;
        }
        int k = 0;
        while (k < row.size() && k < trays[tray].length) {
            trays[tray][k] = row.get(k);
            k++;
        }
        return k;
    }

    int image(int i) {
        if (i < 0 || i > 1) {
            return -2;
        }
        images[i] = new Image(house, now);
        return 0;
    }

    int restore(int i) {
        if (i < 0 || i > 1) {
            return -2;
        }
        if (images[i] == null) {
            return -5;
        }
        house = images[i].house;
        now = images[i].state;
        past.clear();
        return 0;
    }

    int count(int what) {
        return switch (what) {
            case 0 -> facts();
            case 1 -> doings();
            case 2 -> now.known(0);
            case 3 -> now.known(1);
            case 4 -> now.bond;
            case 5 -> doneBoth(now);
            case 6 -> past.size();
            case 7 -> tape.length();
            case 8 -> house.lines;
            default -> -1;
        };
    }
}
