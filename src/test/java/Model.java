import java.math.BigInteger;
import java.util.ArrayDeque;
import java.util.ArrayList;
import java.util.Arrays;
import java.util.Deque;
import java.util.List;
import java.util.Set;
import java.util.function.ToIntFunction;

/**
 * The document once more, as plainly and slowly as can be, and by other ways than the class: a table for the
 * grammar, trees of functions for the laws, all packings, all orders, all choices of heats.
 */
final class Model {
    static final int NONE = -1;
    static final int OTHERS = -2;

    static final class Horse {
        int hinges;
        int cell;
        int rank;
    }

    static final class Piece {
        int stuff;
        int weight;
        int wet;
        int told;
        int on = NONE;
    }

    /** Where a law is asked: all that NAMES may mean there. */
    static final class Place {
        int hour;
        int sun;
        int wind;
        int hinges;
        int load;
        int cell;
        int who;
        int stuff;
        int weight;
        int wet;
        int[] winds;
    }

    static final class Script {
        final List<String[]> clauses = new ArrayList<>();
        ToIntFunction<Place> paces;
        ToIntFunction<Place> dries;
        ToIntFunction<Place> sheds;
    }

    static final class World {
        List<Horse> horses = new ArrayList<>();
        List<Piece> pieces = new ArrayList<>();
        int[] winds = {4, 4, 4, 4, 4, 4, 4, 4, 4, 4, 4, 4};
        List<Script> texts = new ArrayList<>();
        int the = NONE;
        int sun;
        int hour;
        int x = 277;
        List<int[]> book = new ArrayList<>();
        List<World> steps = new ArrayList<>();
        int[] odds = {3, 3, 3, 3, 3};
        int[][] beaten = new int[5][5];
        int[] strengths = {1, 1, 1, 1, 1};
        List<int[]> seen = new ArrayList<>();
        List<int[]> said = new ArrayList<>();

        World copy(boolean withSteps) {
            World w = new World();
            for (Horse h : horses) {
                Horse c = new Horse();
                c.hinges = h.hinges;
                c.cell = h.cell;
                c.rank = h.rank;
                w.horses.add(c);
            }
            for (Piece p : pieces) {
                Piece c = new Piece();
                c.stuff = p.stuff;
                c.weight = p.weight;
                c.wet = p.wet;
                c.told = p.told;
                c.on = p.on;
                w.pieces.add(c);
            }
            w.winds = winds.clone();
            w.texts = new ArrayList<>(texts);
            w.the = the;
            w.sun = sun;
            w.hour = hour;
            w.x = x;
            w.book = new ArrayList<>(book);
            w.odds = odds.clone();
            for (int i = 0; i < 5; i++) {
                w.beaten[i] = beaten[i].clone();
            }
            w.strengths = strengths.clone();
            w.seen = new ArrayList<>(seen);
            w.said = new ArrayList<>(said);
            if (withSteps) {
                w.steps = new ArrayList<>(steps);
            }
            return w;
        }

        Script law() {
            return the == NONE ? null : texts.get(the);
        }

        int weight(int horse) {
            return pieces.stream().filter(p -> p.on == horse).mapToInt(p -> p.weight + p.wet).sum();
        }

        Place place(int horse) {
            Horse h = horses.get(horse);
            Place at = new Place();
            at.hour = hour;
            at.sun = sun;
            at.wind = winds[h.cell];
            at.hinges = h.hinges;
            at.load = weight(horse);
            at.cell = h.cell;
            at.who = horse;
            at.winds = winds;
            return at;
        }

        int paces(Script law, int horse, int sock) {
            Place at = place(horse);
            at.load += sock;
            if (law == null || law.paces == null) {
                int paces = 1;
                if (at.hinges > 5) {
                    paces++;
                }
                if (at.load < 20) {
                    paces++;
                }
                return paces;
            }
            return clip(law.paces.applyAsInt(at), 0, 3);
        }

        int sheds(Script law, int horse) {
            return law == null || law.sheds == null ? 1 : clip(law.sheds.applyAsInt(place(horse)), 0, 10);
        }

        int dries(Script law, Piece p) {
            Place at = place(p.on);
            at.stuff = p.stuff;
            at.weight = p.weight;
            at.wet = p.wet;
            return law == null || law.dries == null ? 1 + (sun + at.wind) / 5
                : clip(law.dries.applyAsInt(at), 0, 20);
        }

        int draw() {
            int was = x;
            x = (x * 523 + 409) % 30707;
            return was;
        }

        void dryAll(int horse) {
            for (Piece p : pieces) {
                if (p.on == horse) {
                    p.wet = Math.max(0, p.wet - dries(law(), p));
                }
            }
        }

        boolean allDry(int horse) {
            return pieces.stream().noneMatch(p -> p.on == horse && p.wet > 0);
        }

        int in() {
            return (int) horses.stream().filter(h -> h.rank > 0).count();
        }

        /** An HOUR, or false if none can pass. */
        boolean anHour() {
            if (hour == 9999) {
                return false;
            }
            sun = draw() % 10;
            horses: for (int i = 0; i < horses.size(); i++) {
                Horse h = horses.get(i);
                if (h.rank > 0) {
                    continue;
                }
                dryAll(i);
                for (Piece p : pieces) {
                    if (p.on == i) {
                        if (draw() % 10 < sheds(law(), i)) {
                            p.on = NONE;
                            continue horses;
                        }
                        break;
                    }
                }
                h.cell = Math.min(11, h.cell + paces(law(), i, 0));
                if (h.cell == 11 && allDry(i)) {
                    h.rank = in() + 1;
                    book.add(new int[] {hour, i, h.rank});
                    if (book.size() > 30) {
                        book.remove(0);
                    }
                }
            }
            hour++;
            return true;
        }
    }

    World w = new World();
    World image = new World();
    byte[] tape = new byte[0];
    int fault = NONE;
    int faultAt = NONE;

    static int clip(long v, int least, int most) {
        return (int) (v < least ? least : v > most ? most : v);
    }

    static boolean in(int n, int least, int most) {
        return n >= least && n <= most;
    }

    boolean isHorse(int h) {
        return h >= 0 && h < w.horses.size();
    }

    boolean isPiece(int p) {
        return p >= 0 && p < w.pieces.size();
    }

    void step() {
        w.steps.add(w.copy(false));
        if (w.steps.size() > 30) {
            w.steps.remove(0);
        }
    }

    int horse(int hinges) {
        if (!in(hinges, 1, 9) || w.horses.size() == 5) {
            return NONE;
        }
        Horse h = new Horse();
        h.hinges = hinges;
        w.horses.add(h);
        return w.horses.size() - 1;
    }

    int piece(int stuff, int weight, int wet) {
        if (!in(stuff, 0, 3) || !in(weight, 1, 9) || !in(wet, 0, 20) || w.pieces.size() == 10) {
            return NONE;
        }
        Piece p = new Piece();
        p.stuff = stuff;
        p.weight = weight;
        p.wet = wet;
        p.told = wet;
        w.pieces.add(p);
        return w.pieces.size() - 1;
    }

    boolean wind(int cell, int wind) {
        if (!in(cell, 0, 11) || !in(wind, 0, 9)) {
            return false;
        }
        w.winds[cell] = wind;
        return true;
    }

    int feed(int a, int b, int c, int d, int e) {
        if (tape.length + 20 > 300) {
            return NONE;
        }
        byte[] longer = Arrays.copyOf(tape, tape.length + 20);
        java.nio.ByteBuffer.wrap(longer, tape.length, 20).putInt(a).putInt(b).putInt(c).putInt(d).putInt(e);
        tape = longer;
        return tape.length;
    }

    int end(int n) {
        if (n < 0 || n > tape.length) {
            return NONE;
        }
        tape = Arrays.copyOf(tape, n);
        return n;
    }

    int text() {
        if (w.texts.size() == 4) {
            return NONE;
        }
        List<Token> tokens = tokens(tape);
        tape = new byte[0];
        if (!new Table(tokens).sound()) {
            return NONE;
        }
        w.texts.add(new Trees(tokens).script());
        return w.texts.size() - 1;
    }

    int fault(int what) {
        return what == 0 ? fault : what == 1 ? faultAt : NONE;
    }

    boolean by(int text) {
        if (!in(text, NONE, w.texts.size() - 1)) {
            return false;
        }
        w.the = text;
        return true;
    }

    boolean pegs(int piece, int horse, boolean byHand) {
        if (!isPiece(piece) || !isHorse(horse) || w.pieces.get(piece).on != NONE || w.horses.get(horse).rank > 0) {
            return false;
        }
        if (byHand) {
            step();
        }
        w.pieces.get(piece).on = horse;
        return true;
    }

    boolean wets(int piece, int wet, boolean byHand) {
        if (!isPiece(piece) || !in(wet, 1, 20) || w.pieces.get(piece).wet == 20) {
            return false;
        }
        if (byHand) {
            step();
        }
        w.pieces.get(piece).wet = Math.min(20, w.pieces.get(piece).wet + wet);
        return true;
    }

    boolean starts(boolean byHand) {
        if (w.horses.isEmpty()) {
            return false;
        }
        if (byHand) {
            step();
        }
        for (Horse h : w.horses) {
            h.cell = 0;
            h.rank = 0;
        }
        return true;
    }

    int hour(int n) {
        if (!in(n, 1, 60) || w.hour + n > 9999) {
            return NONE;
        }
        int before = w.in();
        for (int i = 0; i < n; i++) {
            step();
            w.anHour();
        }
        return w.in() - before;
    }

    int played(int text) {
        if (!in(text, 0, w.texts.size() - 1)) {
            return OTHERS;
        }
        List<String[]> clauses = w.texts.get(text).clauses;
        for (int i = 0; i < clauses.size(); i++) {
            if (!plays(clauses.get(i))) {
                return i;
            }
        }
        return NONE;
    }

    private boolean plays(String[] c) {
        switch (c[0]) {
            case "horse":
                return horse(Integer.parseInt(c[1])) != NONE;
            case "piece":
                return piece(Integer.parseInt(c[1]), Integer.parseInt(c[3]), Integer.parseInt(c[5])) != NONE;
            case "wind":
                return wind(Integer.parseInt(c[3]), Integer.parseInt(c[1]));
            case "peg":
                return pegs(Integer.parseInt(c[1]), Integer.parseInt(c[3]), true);
            case "sock":
                return wets(Integer.parseInt(c[3]), Integer.parseInt(c[1]), true);
            case "start":
                return starts(true);
            case "hour":
                for (int i = 0; i < Integer.parseInt(c[1]); i++) {
                    if (w.hour == 9999) {
                        return false;
                    }
                    step();
                    w.anHour();
                }
                return true;
            default:
                return true;
        }
    }

    int years(int seed, int n) {
        if (!in(seed, 0, 9999) || !in(n, 1, 40)) {
            return NONE;
        }
        step();
        w.x = 277 + 2 * seed;
        while (n-- > 0) {
            int x = w.draw();
            int pieces = w.pieces.size();
            int horses = w.horses.size();
            int kind = x % 6;
            if (kind <= 1 && pieces > 0 && horses > 0) {
                pegs(x % pieces, x / 6 % horses, false);
            } else if (kind == 2 && pieces > 0) {
                wets(x % pieces, 1 + x % 9, false);
            } else if (kind == 3 && x % 4 == 0) {
                starts(false);
            } else if (kind >= 4) {
                w.anHour();
            }
        }
        return w.hour;
    }

    int undo() {
        if (w.steps.isEmpty()) {
            return NONE;
        }
        World was = w.steps.remove(w.steps.size() - 1);
        for (int i = 0; i < w.horses.size(); i++) {
            w.horses.get(i).cell = i < was.horses.size() ? was.horses.get(i).cell : 0;
            w.horses.get(i).rank = i < was.horses.size() ? was.horses.get(i).rank : 0;
        }
        for (int i = 0; i < w.pieces.size(); i++) {
            Piece p = w.pieces.get(i);
            p.wet = i < was.pieces.size() ? was.pieces.get(i).wet : p.told;
            p.on = i < was.pieces.size() ? was.pieces.get(i).on : NONE;
        }
        w.sun = was.sun;
        w.hour = was.hour;
        w.x = was.x;
        w.book = new ArrayList<>(was.book);
        return w.steps.size();
    }

    int bits(int horse) {
        int bits = 0;
        for (int i = 0; i < w.pieces.size(); i++) {
            bits += w.pieces.get(i).on == horse ? 1 << i : 0;
        }
        return bits;
    }

    int of(int horse, int what) {
        if (!isHorse(horse)) {
            return NONE;
        }
        Horse h = w.horses.get(horse);
        switch (what) {
            case 0: return h.hinges;
            case 1: return h.cell;
            case 2: return h.rank;
            case 3: return bits(horse);
            case 4: return w.weight(horse);
            case 5: return w.paces(w.law(), horse, 0);
            case 6: return w.sheds(w.law(), horse);
            default: return NONE;
        }
    }

    int ofPiece(int piece, int what) {
        if (!isPiece(piece)) {
            return OTHERS;
        }
        Piece p = w.pieces.get(piece);
        switch (what) {
            case 0: return p.stuff;
            case 1: return p.weight;
            case 2: return p.wet;
            case 3: return p.on;
            case 4: return p.on == NONE ? NONE : w.dries(w.law(), p);
            default: return OTHERS;
        }
    }

    int is(int what) {
        return what == 0 ? w.hour : what == 1 ? w.x : what == 2 ? w.sun : what == 3 ? w.in() : OTHERS;
    }

    int windAt(int cell) {
        return in(cell, 0, 11) ? w.winds[cell] : NONE;
    }

    int book(int i, int what) {
        if (i == NONE) {
            return w.book.size();
        }
        return i < 0 || i >= w.book.size() || what < 0 || what > 2 ? OTHERS : w.book.get(i)[what];
    }

    int foretold(int n, int what, int which) {
        if (!in(n, 1, 60) || !in(what, 0, 2) || (what == 1 ? !isPiece(which) : !isHorse(which))) {
            return NONE;
        }
        World f = w.copy(false);
        for (int i = 0; i < n; i++) {
            f.anHour();
        }
        return what == 0 ? f.horses.get(which).cell : what == 1 ? f.pieces.get(which).wet : f.horses.get(which).rank;
    }

    int winner() {
        World f = w.copy(false);
        for (int i = 0; i <= 60; i++) {
            for (int h = 0; h < f.horses.size(); h++) {
                if (f.horses.get(h).rank == 1) {
                    return h;
                }
            }
            f.anHour();
        }
        return NONE;
    }

    int pack(int n, int i) {
        int horses = w.horses.size();
        if (!in(n, 1, 8) || n > w.pieces.size() || horses == 0 || !in(i, NONE, n - 1)) {
            return OTHERS;
        }
        int[] at = new int[n];
        int[] best = null;
        int least = 0;
        while (true) {
            int[] loads = new int[horses];
            for (int p = 0; p < n; p++) {
                loads[at[p]] += w.pieces.get(p).weight + w.pieces.get(p).wet;
            }
            int greatest = Arrays.stream(loads).max().getAsInt();
            if (best == null || greatest < least) {
                best = at.clone();
                least = greatest;
            }
            int p = n - 1;
            while (p >= 0 && at[p] == horses - 1) {
                at[p--] = 0;
            }
            if (p < 0) {
                return i == NONE ? least : best[i];
            }
            at[p]++;
        }
    }

    boolean odds(int horse, int odds) {
        if (!in(horse, 0, 4) || !in(odds, 2, 20)) {
            return false;
        }
        w.odds[horse] = odds;
        return true;
    }

    int sure(int gain, int horse) {
        if (!in(gain, 1, 20) || w.horses.isEmpty() || !in(horse, NONE, w.horses.size() - 1)) {
            return NONE;
        }
        for (int all = 0; all <= 500; all++) {
            int[] stakes = new int[w.horses.size()];
            int left = all;
            for (int h = 0; h < stakes.length; h++) {
                while (stakes[h] * w.odds[h] - all < gain) {
                    stakes[h]++;
                }
                left -= stakes[h];
            }
            if (left == 0) {
                return horse == NONE ? all : stakes[horse];
            }
        }
        return NONE;
    }

    boolean beat(int a, int b, int n) {
        if (!in(a, 0, 4) || !in(b, 0, 4) || a == b || !in(n, 0, 99)) {
            return false;
        }
        w.beaten[a][b] = n;
        return true;
    }

    static void orders(List<Integer> so, int n, List<List<Integer>> all) {
        if (so.size() == n) {
            all.add(new ArrayList<>(so));
        }
        for (int i = 0; i < n; i++) {
            if (!so.contains(i)) {
                so.add(i);
                orders(so, n, all);
                so.remove(so.size() - 1);
            }
        }
    }

    int ranking(int i) {
        if (!in(i, NONE, w.horses.size() - 1)) {
            return OTHERS;
        }
        List<List<Integer>> all = new ArrayList<>();
        orders(new ArrayList<>(), w.horses.size(), all);
        List<Integer> best = null;
        int least = 0;
        for (List<Integer> order : all) {
            int upsets = 0;
            for (int a = 0; a < order.size(); a++) {
                for (int b = a + 1; b < order.size(); b++) {
                    upsets += w.beaten[order.get(b)][order.get(a)];
                }
            }
            if (best == null || upsets < least) {
                best = order;
                least = upsets;
            }
        }
        return i == NONE ? least : best.get(i);
    }

    boolean better(int a, int b) {
        return w.beaten[a][b] > w.beaten[b][a];
    }

    int kings() {
        int n = w.horses.size();
        int kings = 0;
        for (int k = 0; k < n; k++) {
            boolean[] reached = new boolean[n];
            reached[k] = true;
            for (int a = 0; a < n; a++) {
                if (better(k, a)) {
                    reached[a] = true;
                    for (int b = 0; b < n; b++) {
                        reached[b] |= better(a, b);
                    }
                }
            }
            boolean king = true;
            for (boolean r : reached) {
                king &= r;
            }
            kings += king ? 1 << k : 0;
        }
        return kings;
    }

    int rings() {
        int n = w.horses.size();
        int rings = 0;
        for (int a = 0; a < n; a++) {
            for (int b = 0; b < n; b++) {
                for (int c = 0; c < n; c++) {
                    rings += better(a, b) && better(b, c) && better(c, a) ? 1 : 0;
                }
            }
        }
        return rings / 3;
    }

    static boolean cover(List<Integer> sets, int n) {
        for (int a = 0; a < n; a++) {
            for (int b = 0; b < a; b++) {
                int both = 1 << a | 1 << b;
                if (sets.stream().noneMatch(s -> (s & both) == both)) {
                    return false;
                }
            }
        }
        return true;
    }

    /** The lowest choice of so many sets from that one on, or null. */
    static List<Integer> choose(List<Integer> so, int from, int count, int size, int n) {
        if (so.size() == count) {
            return cover(so, n) ? so : null;
        }
        for (int set = from; set < 1 << n; set++) {
            if (Integer.bitCount(set) == size) {
                List<Integer> more = new ArrayList<>(so);
                more.add(set);
                List<Integer> found = choose(more, set + 1, count, size, n);
                if (found != null) {
                    return found;
                }
            }
        }
        return null;
    }

    int heats(int size, int i) {
        int n = w.horses.size();
        if (!in(size, 2, 4) || size > n) {
            return OTHERS;
        }
        for (int count = 1;; count++) {
            List<Integer> sets = choose(new ArrayList<>(), 1, count, size, n);
            if (sets != null) {
                return i == NONE ? count : i < 0 || i >= count ? OTHERS : sets.get(i);
            }
        }
    }

    boolean strength(int horse, int strength) {
        if (!in(horse, 0, 4) || !in(strength, 1, 20)) {
            return false;
        }
        w.strengths[horse] = strength;
        return true;
    }

    BigInteger[] chance(int a, int b) {
        int all = 0;
        for (int h = 0; h < w.horses.size(); h++) {
            all += w.strengths[h];
        }
        BigInteger upper = BigInteger.valueOf(w.strengths[a]);
        BigInteger lower = BigInteger.valueOf(all);
        if (b != NONE) {
            upper = upper.multiply(BigInteger.valueOf(w.strengths[b]));
            lower = lower.multiply(BigInteger.valueOf(all - w.strengths[a]));
        }
        return new BigInteger[] {upper, lower};
    }

    static long part(BigInteger[] chance, boolean low) {
        return chance[low ? 1 : 0].divide(chance[0].gcd(chance[1])).longValueExact();
    }

    int first(int horse, boolean low) {
        return isHorse(horse) ? (int) part(chance(horse, NONE), low) : NONE;
    }

    int order(int a, int b, boolean low) {
        return isHorse(a) && isHorse(b) && a != b ? (int) part(chance(a, b), low) : NONE;
    }

    long two(int horse, boolean low) {
        if (!isHorse(horse) || w.horses.size() < 2) {
            return NONE;
        }
        BigInteger[] sum = {BigInteger.ZERO, BigInteger.ONE};
        for (int other = 0; other < w.horses.size(); other++) {
            if (other != horse) {
                for (BigInteger[] c : List.of(chance(horse, other), chance(other, horse))) {
                    sum[0] = sum[0].multiply(c[1]).add(c[0].multiply(sum[1]));
                    sum[1] = sum[1].multiply(c[1]);
                }
            }
        }
        return part(sum, low);
    }

    int see(int n, int cell) {
        if (n == NONE) {
            w.seen.clear();
            return 0;
        }
        if (!in(n, 1, 12) || !in(cell, 0, 11) || w.seen.size() == 6) {
            return OTHERS;
        }
        w.seen.add(new int[] {n, cell});
        return w.seen.size();
    }

    /** The cells that a horse is in behind 0 .. 12 hours, with a sock from the hour behind t others on. */
    int[] cells(int horse, int t, int sock) {
        World f = w.copy(false);
        f.horses.get(horse).cell = 0;
        int[] cells = new int[13];
        for (int i = 1; i <= 12; i++) {
            f.dryAll(horse);
            Horse h = f.horses.get(horse);
            h.cell = Math.min(11, h.cell + f.paces(f.law(), horse, i > t ? sock : 0));
            cells[i] = h.cell;
        }
        return cells;
    }

    boolean couldBe(int horse, int t, int sock) {
        int[] cells = cells(horse, t, sock);
        return w.seen.stream().allMatch(s -> cells[s[0]] == s[1]);
    }

    int nobbled(int horse, int what) {
        if (!isHorse(horse) || !in(what, 0, 2)) {
            return OTHERS;
        }
        int ways = 0;
        int lowest = NONE;
        for (int t = 5; t >= 0; t--) {
            for (int sock = 5; sock >= 1; sock--) {
                if (couldBe(horse, t, sock)) {
                    ways++;
                    lowest = 10 * t + sock;
                }
            }
        }
        return what == 0 ? ways : what == 2 ? lowest : couldBe(horse, 99, 0) ? 1 : 0;
    }

    int dry(int horse) {
        if (!isHorse(horse)) {
            return NONE;
        }
        World f = w.copy(false);
        int hours = 0;
        while (!f.allDry(horse)) {
            if (++hours > 60) {
                return NONE;
            }
            f.dryAll(horse);
        }
        return hours;
    }

    int said(int piece, int dries) {
        if (piece == NONE) {
            w.said.clear();
            return 0;
        }
        if (!isPiece(piece) || !in(dries, 0, 20) || w.said.size() == 8) {
            return OTHERS;
        }
        w.said.add(new int[] {piece, dries});
        return w.said.size();
    }

    int whose() {
        int bits = 0;
        for (int t = 0; t < w.texts.size(); t++) {
            Script text = w.texts.get(t);
            boolean so = w.said.stream().allMatch(s -> w.pieces.get(s[0]).on == NONE
                || w.dries(text, w.pieces.get(s[0])) == s[1]);
            bits += so ? 1 << t : 0;
        }
        return bits;
    }

    int lead() {
        for (int cell = 11; cell > 0; cell--) {
            for (int h = 0; h < w.horses.size(); h++) {
                if (w.horses.get(h).cell == cell && w.horses.get(h).rank == 0) {
                    return h;
                }
            }
        }
        return NONE;
    }

    int heaviest() {
        for (int weight = 300; weight > 0; weight--) {
            for (int h = 0; h < w.horses.size(); h++) {
                if (w.weight(h) == weight) {
                    return h;
                }
            }
        }
        return NONE;
    }

    int grass() {
        return bits(NONE);
    }

    int wettest() {
        for (int wet = 20; wet > 0; wet--) {
            for (int p = 0; p < w.pieces.size(); p++) {
                if (w.pieces.get(p).wet == wet) {
                    return p;
                }
            }
        }
        return NONE;
    }

    int wins(int horse) {
        return isHorse(horse) ? (int) w.book.stream().filter(b -> b[1] == horse && b[2] == 1).count() : NONE;
    }

    int ledger(int horse) {
        return horse == NONE ? w.book.size()
            : isHorse(horse) ? (int) w.book.stream().filter(b -> b[1] == horse).count() : OTHERS;
    }

    int image() {
        image = w.copy(true);
        return w.hour;
    }

    int back() {
        w = image.copy(true);
        return w.hour;
    }

    int about(int what) {
        switch (what) {
            case 0: return w.horses.size();
            case 1: return w.pieces.size();
            case 2: return w.texts.size();
            case 3: return w.the;
            case 4: return w.steps.size();
            case 5: return w.seen.size();
            case 6: return w.said.size();
            case 7: return tape.length;
            default: return OTHERS;
        }
    }

    /** A TOKEN: its bytes, and where it begins. The end has no bytes, what is none has "?". */
    record Token(String what, int at) {
        boolean isNumber() {
            return !what.isEmpty() && Character.isDigit(what.charAt(0));
        }
    }

    static List<Token> tokens(byte[] bytes) {
        String all = new String(bytes, java.nio.charset.StandardCharsets.ISO_8859_1);
        var found = java.util.regex.Pattern.compile("[a-zA-Z]+|[0-9]+|<=|>=|[<>=#+*/();-]|[ \n]|(?s:.)").matcher(all);
        List<Token> tokens = new ArrayList<>();
        while (found.find()) {
            String what = found.group();
            if (!what.equals(" ") && !what.equals("\n")) {
                tokens.add(new Token(what.matches("[a-zA-Z]+|[0-9]+|<=|>=|[<>=#+*/();-]") ? what : "?", found.start()));
            }
        }
        tokens.add(new Token("", all.length()));
        return tokens;
    }

    static final Set<String> NAMES =
        Set.of("hour", "sun", "wind", "hinges", "load", "cell", "who", "stuff", "weight", "wet");
    static final Set<String> DRIES_NAMES = Set.of("stuff", "weight", "wet");
    static final Set<String> CLAUSES =
        Set.of("paces", "dries", "sheds", "horse", "piece", "wind", "peg", "sock", "start", "hour");
    static final Set<String> COMPARISONS = Set.of("<", "<=", ">", ">=", "=", "#");

    /** The grammar by a stack of what is due: upper-case parts, "n a b" a NUMBER a .. b, "shut" that one is closed. */
    final class Table {
        final List<Token> tokens;
        final Deque<String> due = new ArrayDeque<>();
        final List<String> laws = new ArrayList<>();
        int clauses;
        int open;
        String clause = "";

        Table(List<Token> tokens) {
            this.tokens = tokens;
        }

        void expect(String... parts) {
            for (int i = parts.length - 1; i >= 0; i--) {
                due.push(parts[i]);
            }
        }

        boolean sound() {
            fault = 0;
            faultAt = NONE;
            expect("TEXT", "");
            for (Token t : tokens) {
                int found = stand(t);
                if (found != 0) {
                    fault = found;
                    faultAt = t.at();
                    return false;
                }
            }
            return true;
        }

        /** The least FAULT of the token, or 0. */
        int stand(Token t) {
            while (true) {
                String part = due.pop();
                String what = t.what();
                switch (part) {
                    case "shut":
                        open--;
                        break;
                    case "TEXT":
                        if (!what.isEmpty()) {
                            expect("CLAUSE", "TEXT");
                        }
                        break;
                    case "CLAUSE":
                        return beginClause(what);
                    case "SUM":
                        expect("PRODUCT", "SUMS");
                        break;
                    case "SUMS":
                        if (what.equals("+") || what.equals("-")) {
                            expect("PRODUCT", "SUMS");
                            return 0;
                        }
                        break;
                    case "PRODUCT":
                        expect("ONE", "PRODUCTS");
                        break;
                    case "PRODUCTS":
                        if (what.equals("*") || what.equals("/")) {
                            expect("ONE", "PRODUCTS");
                            return 0;
                        }
                        break;
                    case "ONE":
                        return beginOne(t);
                    case "EITHER":
                        expect("BOTH", "EITHERS");
                        break;
                    case "EITHERS":
                        if (what.equals("or")) {
                            expect("BOTH", "EITHERS");
                            return 0;
                        }
                        break;
                    case "BOTH":
                        expect("ASK", "BOTHS");
                        break;
                    case "BOTHS":
                        if (what.equals("and")) {
                            expect("ASK", "BOTHS");
                            return 0;
                        }
                        break;
                    case "ASK":
                        if (what.equals("not")) {
                            expect("ASK", "shut");
                            return ++open > 8 ? 3 : 0;
                        }
                        expect("SUM", "COMPARE", "SUM");
                        break;
                    case "COMPARE":
                        return COMPARISONS.contains(what) ? 0 : 1;
                    default:
                        if (part.startsWith("n ")) {
                            String[] range = part.split(" ");
                            return !t.isNumber() ? 1
                                : number(what) < Integer.parseInt(range[1]) || number(what) > Integer.parseInt(range[2]) ? 2 : 0;
                        }
                        return part.equals(what) ? 0 : 1;
                }
            }
        }

        int beginClause(String what) {
            if (!CLAUSES.contains(what)) {
                return 1;
            }
            clause = what;
            clauses++;
            int found = clauses > 24 ? 6 : 0;
            switch (what) {
                case "paces":
                case "dries":
                case "sheds":
                    found = laws.contains(what) ? 4 : found;
                    laws.add(what);
                    expect("SUM", ";");
                    break;
                case "horse":
                    expect("n 1 9", ";");
                    break;
                case "piece":
                    expect("n 0 3", "weight", "n 1 9", "wet", "n 0 20", ";");
                    break;
                case "wind":
                    expect("n 0 9", "at", "n 0 11", ";");
                    break;
                case "peg":
                    expect("n 0 9", "to", "n 0 4", ";");
                    break;
                case "sock":
                    expect("n 1 20", "on", "n 0 9", ";");
                    break;
                case "start":
                    expect(";");
                    break;
                default:
                    expect("n 1 60", ";");
                    break;
            }
            return found;
        }

        int beginOne(Token t) {
            String what = t.what();
            if (t.isNumber()) {
                return number(what) > 9999 ? 2 : 0;
            }
            if (NAMES.contains(what)) {
                return DRIES_NAMES.contains(what) && !clause.equals("dries") ? 5 : 0;
            }
            switch (what) {
                case "(":
                    expect("SUM", ")", "shut");
                    break;
                case "-":
                case "tenth":
                case "winds":
                    expect("ONE", "shut");
                    break;
                case "if":
                    expect("EITHER", "then", "SUM", "else", "SUM", "end", "shut");
                    break;
                default:
                    return 1;
            }
            return ++open > 8 ? 3 : 0;
        }
    }

    static long number(String digits) {
        return new BigInteger(digits).min(BigInteger.valueOf(1000000)).longValue();
    }

    /** The trees of a text that is known to be without a FAULT. */
    static final class Trees {
        final List<Token> tokens;
        int i;

        Trees(List<Token> tokens) {
            this.tokens = tokens;
        }

        String peek() {
            return tokens.get(i).what();
        }

        String next() {
            return tokens.get(i++).what();
        }

        Script script() {
            Script s = new Script();
            while (!peek().isEmpty()) {
                String kind = peek();
                if (kind.equals("paces") || kind.equals("dries") || kind.equals("sheds")) {
                    next();
                    ToIntFunction<Place> law = sum();
                    s.clauses.add(new String[] {kind});
                    if (kind.equals("paces")) {
                        s.paces = law;
                    } else if (kind.equals("dries")) {
                        s.dries = law;
                    } else {
                        s.sheds = law;
                    }
                    next();
                } else {
                    List<String> words = new ArrayList<>();
                    while (!peek().equals(";")) {
                        words.add(next());
                    }
                    next();
                    s.clauses.add(words.toArray(new String[0]));
                }
            }
            return s;
        }

        static int within(long v) {
            return clip(v, -1000000, 1000000);
        }

        ToIntFunction<Place> sum() {
            ToIntFunction<Place> left = product();
            while (peek().equals("+") || peek().equals("-")) {
                int sign = next().equals("+") ? 1 : -1;
                ToIntFunction<Place> l = left;
                ToIntFunction<Place> r = product();
                left = p -> within((long) l.applyAsInt(p) + sign * r.applyAsInt(p));
            }
            return left;
        }

        ToIntFunction<Place> product() {
            ToIntFunction<Place> left = one();
            while (peek().equals("*") || peek().equals("/")) {
                boolean times = next().equals("*");
                ToIntFunction<Place> l = left;
                ToIntFunction<Place> r = one();
                left = p -> {
                    long a = l.applyAsInt(p);
                    long b = r.applyAsInt(p);
                    return within(times ? a * b : b == 0 ? 0 : a / b);
                };
            }
            return left;
        }

        ToIntFunction<Place> one() {
            String what = next();
            switch (what) {
                case "hour": return p -> p.hour;
                case "sun": return p -> p.sun;
                case "wind": return p -> p.wind;
                case "hinges": return p -> p.hinges;
                case "load": return p -> p.load;
                case "cell": return p -> p.cell;
                case "who": return p -> p.who;
                case "stuff": return p -> p.stuff;
                case "weight": return p -> p.weight;
                case "wet": return p -> p.wet;
                default: break;
            }
            if (what.equals("(")) {
                ToIntFunction<Place> inner = sum();
                next();
                return inner;
            }
            if (what.equals("if")) {
                ToIntFunction<Place> asked = either();
                next();
                ToIntFunction<Place> yes = sum();
                next();
                ToIntFunction<Place> no = sum();
                next();
                return p -> asked.applyAsInt(p) == 1 ? yes.applyAsInt(p) : no.applyAsInt(p);
            }
            if (what.equals("-")) {
                ToIntFunction<Place> of = one();
                return p -> -of.applyAsInt(p);
            }
            if (what.equals("tenth")) {
                ToIntFunction<Place> of = one();
                return p -> (int) Math.floor(of.applyAsInt(p) / 10.0);
            }
            if (what.equals("winds")) {
                ToIntFunction<Place> of = one();
                return p -> {
                    int cell = of.applyAsInt(p);
                    return in(cell, 0, 11) ? p.winds[cell] : 0;
                };
            }
            int value = (int) number(what);
            return p -> value;
        }

        ToIntFunction<Place> either() {
            ToIntFunction<Place> left = both();
            while (peek().equals("or")) {
                next();
                ToIntFunction<Place> l = left;
                ToIntFunction<Place> r = both();
                left = p -> Math.max(l.applyAsInt(p), r.applyAsInt(p));
            }
            return left;
        }

        ToIntFunction<Place> both() {
            ToIntFunction<Place> left = ask();
            while (peek().equals("and")) {
                next();
                ToIntFunction<Place> l = left;
                ToIntFunction<Place> r = ask();
                left = p -> Math.min(l.applyAsInt(p), r.applyAsInt(p));
            }
            return left;
        }

        ToIntFunction<Place> ask() {
            if (peek().equals("not")) {
                next();
                ToIntFunction<Place> of = ask();
                return p -> 1 - of.applyAsInt(p);
            }
            ToIntFunction<Place> l = sum();
            String how = next();
            ToIntFunction<Place> r = sum();
            return p -> {
                int c = Integer.compare(l.applyAsInt(p), r.applyAsInt(p));
                boolean so = how.equals("<") ? c < 0 : how.equals("<=") ? c <= 0 : how.equals(">") ? c > 0
                    : how.equals(">=") ? c >= 0 : how.equals("=") ? c == 0 : c != 0;
                return so ? 1 : 0;
            };
        }
    }
}
