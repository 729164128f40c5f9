import java.math.BigInteger;
import java.util.ArrayDeque;
import java.util.ArrayList;
import java.util.Arrays;
import java.util.Deque;
import java.util.HashMap;
import java.util.List;
import java.util.Map;

/**
 * The document told once more, by other means than the class: the tray is kept pin by pin, ways are
 * tried one by one, fractions are added as fractions. For ModelTest to compare with.
 */
final class Model {
    static final int NONE = -1000000, BAD = -1000001, STATE = -1000002, FULL = -1000003;

    private static final class Pin {
        char sort;
        int home, skill, colour, last;
        boolean inTray;

        Pin twin() {
            Pin p = new Pin();
            p.sort = sort;
            p.home = home;
            p.skill = skill;
            p.colour = colour;
            p.last = last;
            p.inTray = inTray;
            return p;
        }

        int where() {
            return inTray ? NONE : last;
        }
    }

    private static final class Baize {
        int[] work;
        List<Pin> pins = new ArrayList<>();
        int slip, time;
        long earned;
        boolean day = true;

        Baize twin() {
            Baize b = new Baize();
            b.work = work.clone();
            for (Pin p : pins) {
                b.pins.add(p.twin());
            }
            b.slip = slip;
            b.time = time;
            b.earned = earned;
            b.day = day;
            return b;
        }

        void close() {
            for (Pin p : pins) {
                p.inTray = p.sort != 'w';
            }
            day = false;
        }

        void open(boolean[] left) {
            for (int i = 0; i < pins.size(); i++) {
                Pin p = pins.get(i);
                if (p.sort == 'w' || left[i]) {
                    continue;
                }
                if (p.sort == 's') {
                    Pin other = null;
                    for (int j = pins.size() - 1; j > i; j--) {
                        Pin q = pins.get(j);
                        if (q.colour == p.colour && q.sort != 'w') {
                            other = q;
                        }
                    }
                    if (other != null) {
                        int keep = other.last;
                        other.last = p.last;
                        p.last = keep;
                    }
                }
                if (p.sort == 'r') {
                    for (int k = 0; k < slip; k++) {
                        p.last = p.last + 1 == work.length ? 0 : p.last + 1;
                    }
                }
                if (p.sort == 'o') {
                    p.last = p.home;
                }
                p.inTray = false;
            }
            day = true;
        }

        long come() {
            long sum = 0;
            for (Pin p : pins) {
                int there = 0;
                for (Pin q : pins) {
                    there += q.where() == p.where() ? 1 : 0;
                }
                sum += p.skill * work[p.where()] / there;
            }
            return sum;
        }

        void turn() {
            if (day) {
                close();
            } else {
                open(new boolean[pins.size()]);
                earned = Math.min(999999, earned + come());
            }
            time++;
        }

        List<Integer> places() {
            List<Integer> all = new ArrayList<>();
            for (Pin p : pins) {
                all.add(p.where());
            }
            return all;
        }

        List<Integer> homes() {
            List<Integer> all = new ArrayList<>();
            for (Pin p : pins) {
                all.add(p.home);
            }
            return all;
        }

        int right() {
            int bits = 0;
            for (int i = 0; i < pins.size(); i++) {
                bits += pins.get(i).where() == pins.get(i).home ? 1 << i : 0;
            }
            return bits;
        }
    }

    private Baize baize;
    private final Deque<Baize> acts = new ArrayDeque<>();
    private final Baize[] images = new Baize[2];
    private final StringBuilder tape = new StringBuilder();
    private final long[][] rows = new long[8][];
    private final int[] lanes = new int[8];
    private final List<Integer> trace = new ArrayList<>();
    private int fault, faultPlace, status;

    int call(String name, int... a) {
        switch (name) {
            case "row": return row(a[0], a[1], a[2]);
            case "set": return set(a[0], a[1], a[2]);
            case "copy": return copy(a[0], a[1], a[2], a[3], a[4]);
            case "drop": return drop(a[0]);
            case "feed": return feed(a[0]);
            case "map": return map();
            case "fault": return fault;
            case "times": return times(a[0]);
            case "move": return move(a[0], a[1]);
            case "swap": return swap(a[0], a[1]);
            case "work": return work(a[0], a[1]);
            case "slip": return slip(a[0]);
            case "undo": return undo();
            case "pin": return pin(a[0], a[1]);
            case "cell": return cell(a[0], a[1]);
            case "ahead": return noPin(a[0]) || out(a[1], 60) ? BAD : on(a[1]).pins.get(a[0]).where();
            case "earned": return baize == null ? STATE : out(a[0], 60) ? BAD : (int) on(a[0]).earned;
            case "tomsk": return tomsk(a[0], a[1]);
            case "round": return round();
            case "right": return baize == null ? STATE : out(a[0], 1) ? BAD : a[0] == 0 ? baize.right() : changes();
            case "best": return best(a[0]);
            case "fits": return fits(a[0], a[1], a[2], a[3], a[4]);
            case "left": return left(a[0], a[1], a[2]);
            case "drawn": return drawn(a[0], a[1], a[2]);
            case "image": return image(a[0]);
            case "restore": return restore(a[0]);
            case "kind": return noPin(a[0]) ? BAD : " asrow".indexOf(sort(a[0]));
            case "as": return as(a[0], a[1]);
            case "ask": return ask(a[0], a[1]);
            case "trace": return a[0] < 0 || a[0] >= trace.size() ? NONE : trace.get(a[0]);
            case "count": return count(a[0]);
            case "status": return status;
            default: throw new IllegalStateException(name);
        }
    }

    private boolean out(int v, int most) {
        return v < 0 || v > most;
    }

    private boolean noPin(int p) {
        return baize == null || p < 0 || p >= baize.pins.size();
    }

    private boolean noCell(int c) {
        return baize == null || c < 0 || c >= baize.work.length;
    }

    private char sort(int p) {
        return baize.pins.get(p).sort;
    }

    private int found(int number) {
        status = number;
        return -1000010 - number;
    }

    private int fine(long answer) {
        status = 0;
        return (int) answer;
    }

    // ---- rows

    private int row(int row, int lane, int n) {
        if (out(row, 7) || out(lane, 2) || n > 40) {
            return BAD;
        }
        if (n < 0) {
            return found(4);
        }
        rows[row] = new long[n];
        lanes[row] = lane;
        return fine(n);
    }

    private int set(int row, int i, int v) {
        if (out(row, 7)) {
            return BAD;
        }
        if (rows[row] == null) {
            return found(1);
        }
        if (i < 0 || i >= rows[row].length) {
            return found(2);
        }
        long bits = 8L << lanes[row];
        long rest = Math.floorMod((long) v, 1L << bits);
        rows[row][i] = rest >= 1L << bits - 1 ? rest - (1L << bits) : rest;
        return fine(rows[row][i]);
    }

    private int copy(int a, int i, int b, int j, int n) {
        if (out(a, 7) || out(b, 7)) {
            return BAD;
        }
        if (rows[a] == null || rows[b] == null) {
            return found(1);
        }
        if (lanes[a] != lanes[b]) {
            return found(5);
        }
        boolean in = i >= 0 && j >= 0 && n >= 0;
        if (!in || (long) i + n > rows[a].length || (long) j + n > rows[b].length) {
            return found(2);
        }
        long[] ahead = rows[a].clone();
        for (int k = 0; k < n; k++) {
            rows[b][j + k] = ahead[i + k];
        }
        return fine(n);
    }

    private int drop(int row) {
        if (out(row, 7)) {
            return BAD;
        }
        if (rows[row] == null) {
            return found(1);
        }
        int had = rows[row].length;
        rows[row] = null;
        return fine(had);
    }

    // ---- maps, acts

    private int feed(int letter) {
        if (out(letter, 255)) {
            return BAD;
        }
        if (tape.length() == 130) {
            return FULL;
        }
        return tape.append((char) letter).length();
    }

    private int map() {
        Baize made = read(tape.toString());
        tape.setLength(0);
        if (made == null) {
            return -1000100 - faultPlace;
        }
        baize = made;
        acts.clear();
        return made.pins.size();
    }

    private Baize wrong(int place, int number) {
        faultPlace = place;
        fault = number;
        return null;
    }

    /** Token by token through a table of what may come next. */
    private Baize read(String text) {
        Baize made = new Baize();
        List<Integer> works = new ArrayList<>();
        String state = "law";
        int place = 0;
        while (place <= text.length()) {
            char c = place < text.length() ? text.charAt(place) : '$';
            int end = place;
            while (end < text.length() && Character.toString(text.charAt(end)).matches("[0-9]")) {
                end++;
            }
            int number = end > place && end - place < 3 ? Integer.parseInt(text.substring(place, end)) : -1;
            boolean isNumber = number >= 0;
            Pin p = made.pins.isEmpty() ? null : made.pins.get(made.pins.size() - 1);
            if (place == text.length()) {
                if (!state.equals("any") || works.size() < 4) {
                    return wrong(place, 1);
                }
                break;
            }
            switch (state) {
                case "law":
                    if (c != 'm') {
                        return wrong(place, 1);
                    }
                    state = "slip";
                    break;
                case "any":
                    if (c == 'c' && made.pins.isEmpty()) {
                        if (works.size() == 16) {
                            return wrong(place, 3);
                        }
                        state = "work";
                    } else if ("asrow".indexOf(c) >= 0 && works.size() >= 4) {
                        if (made.pins.size() == 7) {
                            return wrong(place, 3);
                        }
                        made.pins.add(new Pin());
                        made.pins.get(made.pins.size() - 1).sort = c;
                        state = "home";
                    } else {
                        return wrong(place, 1);
                    }
                    break;
                case "end":
                    if (c != ';') {
                        return wrong(place, 1);
                    }
                    state = "any";
                    break;
                case ", skill":
                case ", colour":
                    if (c != ',') {
                        return wrong(place, 1);
                    }
                    state = state.substring(2);
                    break;
                default:
                    if (!isNumber) {
                        return wrong(place, 1);
                    }
                    boolean good;
                    if (state.equals("slip")) {
                        good = number < 16;
                        made.slip = number;
                    } else if (state.equals("work")) {
                        good = number < 10;
                        works.add(number);
                    } else if (state.equals("home")) {
                        good = number < works.size();
                        for (Pin q : made.pins) {
                            good &= q == p || q.home != number;
                        }
                        p.home = number;
                        p.last = number;
                    } else if (state.equals("skill")) {
                        good = number >= 1 && number <= 9;
                        p.skill = number;
                    } else {
                        good = number <= 3;
                        p.colour = number;
                    }
                    if (!good) {
                        return wrong(place, 2);
                    }
                    state = state.equals("home") ? ", skill" : state.equals("skill") ? ", colour" : "end";
                    break;
            }
            place = Math.max(place + 1, end);
        }
        made.work = works.stream().mapToInt(Integer::intValue).toArray();
        return made;
    }

    private void act() {
        acts.addLast(baize.twin());
        if (acts.size() > 24) {
            acts.removeFirst();
        }
    }

    private int times(int n) {
        if (baize == null) {
            return STATE;
        }
        if (n < 1 || n > 24) {
            return BAD;
        }
        if (baize.time + n > 9999) {
            return FULL;
        }
        for (int k = 0; k < n; k++) {
            act();
            baize.turn();
        }
        return baize.day ? 1 : 0;
    }

    private int move(int pin, int cell) {
        if (noPin(pin) || noCell(cell)) {
            return BAD;
        }
        Pin p = baize.pins.get(pin);
        if (!baize.day || p.where() == cell) {
            return STATE;
        }
        act();
        int was = p.where();
        baize.pins.get(pin).last = cell;
        return was;
    }

    private int swap(int one, int other) {
        if (noPin(one) || noPin(other) || one == other) {
            return BAD;
        }
        if (!baize.day) {
            return STATE;
        }
        act();
        int a = baize.pins.get(one).last;
        int b = baize.pins.get(other).last;
        baize.pins.get(one).last = b;
        baize.pins.get(other).last = a;
        return b;
    }

    private int work(int cell, int v) {
        if (noCell(cell) || out(v, 9)) {
            return BAD;
        }
        act();
        int was = baize.work[cell];
        baize.work[cell] = v;
        return was;
    }

    private int slip(int v) {
        if (baize == null) {
            return STATE;
        }
        if (out(v, 15)) {
            return BAD;
        }
        act();
        int was = baize.slip;
        baize.slip = v;
        return was;
    }

    private int undo() {
        if (acts.isEmpty()) {
            return STATE;
        }
        baize = acts.removeLast();
        return acts.size();
    }

    private int pin(int pin, int what) {
        if (noPin(pin) || out(what, 4)) {
            return BAD;
        }
        Pin p = baize.pins.get(pin);
        return new int[] {p.home, p.skill, p.colour, p.where(), p.last}[what];
    }

    private int cell(int cell, int what) {
        if (noCell(cell) || out(what, 2)) {
            return BAD;
        }
        int in = 0;
        for (int i = 0; i < baize.pins.size(); i++) {
            in += baize.pins.get(i).where() == cell ? 1 << i : 0;
        }
        int owner = baize.homes().indexOf(cell);
        return what == 0 ? baize.work[cell] : what == 1 ? in : owner < 0 ? NONE : owner;
    }

    // ---- foretold

    private Baize on(int d) {
        Baize b = baize.twin();
        for (int k = 0; k < d; k++) {
            b.turn();
        }
        return b;
    }

    private int tomsk(int pin, int cell) {
        if (noPin(pin) || noCell(cell)) {
            return BAD;
        }
        for (int d = 0; d <= 60; d++) {
            if (on(d).pins.get(pin).where() == cell) {
                return d;
            }
        }
        return NONE;
    }

    private int round() {
        if (baize == null) {
            return STATE;
        }
        Baize b = baize.twin();
        for (int d = 1; d <= 200; d++) {
            b.turn();
            if (b.places().equals(baize.places())) {
                return d;
            }
        }
        return NONE;
    }

    /** Step by step outwards, over all orders that changes of two lead to. */
    private int changes() {
        if (!baize.day) {
            return NONE;
        }
        List<Integer> homes = baize.homes();
        List<List<Integer>> edge = List.of(baize.places());
        Map<List<Integer>, Integer> seen = new HashMap<>();
        seen.put(baize.places(), 0);
        for (int steps = 0; !edge.isEmpty(); steps++) {
            List<List<Integer>> further = new ArrayList<>();
            for (List<Integer> order : edge) {
                if (order.equals(homes)) {
                    return steps;
                }
                for (int i = 0; i < order.size(); i++) {
                    for (int j = 0; j < i; j++) {
                        List<Integer> next = new ArrayList<>(order);
                        next.set(i, order.get(j));
                        next.set(j, order.get(i));
                        if (seen.putIfAbsent(next, steps + 1) == null) {
                            further.add(next);
                        }
                    }
                }
            }
            edge = further;
        }
        return NONE;
    }

    /** From the last pin back, over all sets of cells taken. */
    private int best(int pin) {
        if (baize == null) {
            return STATE;
        }
        int pins = baize.pins.size();
        int cells = baize.work.length;
        if (pin < -1 || pin >= pins) {
            return BAD;
        }
        if (pins > cells) {
            return NONE;
        }
        int[][] most = new int[pins + 1][1 << cells];
        for (int p = pins - 1; p >= 0; p--) {
            for (int taken = 0; taken < 1 << cells; taken++) {
                most[p][taken] = Integer.MIN_VALUE / 2;
                for (int c = 0; c < cells; c++) {
                    if ((taken & 1 << c) == 0) {
                        int sum = baize.pins.get(p).skill * baize.work[c] + most[p + 1][taken | 1 << c];
                        most[p][taken] = Math.max(most[p][taken], sum);
                    }
                }
            }
        }
        if (pin == -1) {
            return most[0][0];
        }
        int taken = 0;
        int at = NONE;
        for (int p = 0; p <= pin; p++) {
            at = 0;
            while ((taken & 1 << at) != 0
                || baize.pins.get(p).skill * baize.work[at] + most[p + 1][taken | 1 << at] != most[p][taken]) {
                at++;
            }
            taken |= 1 << at;
        }
        return at;
    }

    private int fits(int pin, int row, int i, int n, int what) {
        if (noPin(pin) || out(row, 7) || n < 1 || n > 12 || out(what, 3)) {
            return BAD;
        }
        if (rows[row] == null) {
            return found(1);
        }
        if (i < 0 || (long) i + n > rows[row].length) {
            return found(2);
        }
        List<Long> told = new ArrayList<>();
        for (int k = 0; k < n; k++) {
            told.add(rows[row][i + k]);
        }
        int bits = 0;
        int from = what == 0 ? 1 : 0;
        int to = what == 0 ? 5 : what == 1 ? 15 : baize.work.length - 1;
        for (int v = from; v <= to; v++) {
            Baize b = baize.twin();
            Pin p = b.pins.get(pin);
            if (what == 0) {
                p.sort = " asrow".charAt(v);
                p.inTray = !b.day && p.sort != 'w';
            } else if (what == 1) {
                b.slip = v;
            } else if (what == 2) {
                p.home = v;
            } else {
                p.last = v;
            }
            List<Long> come = new ArrayList<>();
            while (come.size() < n) {
                b.turn();
                if (b.day) {
                    come.add((long) p.where());
                }
            }
            bits |= come.equals(told) ? 1 << v : 0;
        }
        return fine(bits);
    }

    private int left(int cell, int c, int what) {
        if (noCell(cell) || out(c, 10) || out(what, 1)) {
            return BAD;
        }
        Baize night = baize.twin();
        if (night.day) {
            night.turn();
        }
        BigInteger[] sum = held(night, cell, c, 0, new boolean[night.pins.size()]);
        BigInteger common = sum[0].gcd(sum[1]);
        return sum[what].divide(common).intValueExact();
    }

    /** Above and below, over one pin more that is left or put back. */
    private BigInteger[] held(Baize night, int cell, int c, int pin, boolean[] left) {
        if (pin == left.length) {
            Baize b = night.twin();
            b.open(left);
            boolean is = b.places().contains(cell);
            return new BigInteger[] {is ? BigInteger.ONE : BigInteger.ZERO, BigInteger.ONE};
        }
        left[pin] = false;
        BigInteger[] put = held(night, cell, c, pin + 1, left);
        if (night.pins.get(pin).sort == 'w') {
            return put;
        }
        left[pin] = true;
        BigInteger[] out = held(night, cell, c, pin + 1, left);
        left[pin] = false;
        BigInteger above = put[0].multiply(out[1]).multiply(BigInteger.valueOf(10 - c))
            .add(out[0].multiply(put[1]).multiply(BigInteger.valueOf(c)));
        BigInteger below = put[1].multiply(out[1]).multiply(BigInteger.TEN);
        BigInteger common = above.gcd(below);
        return new BigInteger[] {above.divide(common), below.divide(common)};
    }

    private int drawn(int n, int seed, int what) {
        if (baize == null) {
            return STATE;
        }
        if (out(n, 30) || seed < 1 || seed > 999999 || out(what, 1)) {
            return BAD;
        }
        Baize b = baize.twin();
        BigInteger x = BigInteger.valueOf(seed);
        long sum = 0;
        for (int k = 0; k < n; k++) {
            x = x.multiply(BigInteger.valueOf(16807)).mod(BigInteger.valueOf(2147483647));
            b.slip = x.intValueExact() & 15;
            if (b.day && !b.pins.isEmpty()) {
                b.pins.get(x.intValueExact() % b.pins.size()).last = x.intValueExact() % b.work.length;
            }
            do {
                b.turn();
            } while (!b.day);
            sum += b.come();
        }
        return what == 0 ? (int) sum : Integer.bitCount(b.right());
    }

    private int image(int k) {
        if (out(k, 1)) {
            return BAD;
        }
        if (baize == null) {
            return STATE;
        }
        images[k] = baize.twin();
        return 1;
    }

    private int restore(int k) {
        if (out(k, 1)) {
            return BAD;
        }
        if (images[k] == null) {
            return STATE;
        }
        baize = images[k].twin();
        acts.clear();
        return 1;
    }

    // ---- asked

    private int as(int pin, int kind) {
        if (noPin(pin) || out(kind, 5)) {
            return BAD;
        }
        String chain = Map.of('a', "01", 's', "012", 'r', "013", 'o', "04", 'w', "045").get(sort(pin));
        return chain.contains("" + kind) ? fine(pin) : found(3);
    }

    /** The bodies as a table: of an ask and a sort, the one that begins. */
    private int ask(int pin, int what) {
        if (noPin(pin) || out(what, 1)) {
            return BAD;
        }
        trace.clear();
        return what == 0 ? size(pin) : mark(pin);
    }

    private int size(int pin) {
        return body(pin, Map.of('a', 11, 's', 12, 'r', 11, 'o', 13, 'w', 14).get(sort(pin)));
    }

    private int mark(int pin) {
        return body(pin, Map.of('a', 21, 's', 24, 'r', 22, 'o', 23, 'w', 23).get(sort(pin)));
    }

    private int body(int pin, int number) {
        if (trace.size() < 16) {
            trace.add(number);
        }
        switch (number) {
            case 10: return baize.pins.get(pin).skill;
            case 11: return body(pin, 10) + mark(pin);
            case 12: return 0 - body(pin, 11);
            case 13: return body(pin, 10) - 100;
            case 14: return 2 * body(pin, 13);
            case 20: return pin;
            case 21: return body(pin, 20) + baize.pins.get(pin).last;
            case 22: return body(pin, 21) - 1000;
            case 23: return body(pin, 20) - size(pin);
            default: return 2 * body(pin, 21);
        }
    }

    private int count(int what) {
        int tray = 0;
        for (int i = 0; baize != null && i < baize.pins.size(); i++) {
            tray += baize.pins.get(i).inTray ? 1 << i : 0;
        }
        switch (what) {
            case 0: return (int) Arrays.stream(rows).filter(r -> r != null).count();
            case 1: return baize == null ? 0 : baize.work.length;
            case 2: return baize == null ? 0 : baize.pins.size();
            case 3: return baize == null ? 0 : baize.time;
            case 4: return baize != null && baize.day ? 1 : 0;
            case 5: return baize == null ? 0 : baize.slip;
            case 6: return baize == null ? 0 : (int) baize.earned;
            case 7: return tray;
            case 8: return acts.size();
            case 9: return tape.length();
            default: return BAD;
        }
    }
}
