import java.math.BigInteger;
import java.util.ArrayDeque;
import java.util.ArrayList;
import java.util.Deque;
import java.util.HashMap;
import java.util.List;
import java.util.Map;
import java.util.function.Function;
import java.util.regex.Matcher;
import java.util.regex.Pattern;

/**
 * The document once more, written from its words in another way (people as objects, cells as places on a plane,
 * regular expressions, big numbers), for the random runs to be compared with.
 */
final class Model {

    static final class Man {
        int kind;
        int figure;
        int x;
        int y;
        int faces;
        int starts;

        Man copy() {
            Man m = new Man();
            m.kind = kind;
            m.figure = figure;
            m.x = x;
            m.y = y;
            m.faces = faces;
            m.starts = starts;
            return m;
        }

        int cell() {
            return 6 * y + x;
        }

        void cell(int cell) {
            x = cell % 6;
            y = cell / 6;
        }

        int reach() {
            return new int[] {3, 4, 1 + figure / 2, 6, 0, 4 + figure / 3}[kind];
        }

        int depth() {
            int viewer = 2 + figure / 4;
            return new int[] {viewer, viewer, viewer + 1, viewer, 2 * (viewer + 1), 1}[kind];
        }
    }

    static final int[] DX = {0, 1, 0, -1};
    static final int[] DY = {-1, 0, 1, 0};

    static final class World {
        final List<Man> men = new ArrayList<>();
        int night;
        int startEvents;

        World copy() {
            World w = new World();
            for (Man m : men) {
                w.men.add(m.copy());
            }
            w.night = night;
            return w;
        }

        Man man(int i) {
            return men.get(i);
        }

        int at(int x, int y) {
            for (int i = 0; i < men.size(); i++) {
                if (man(i).x == x && man(i).y == y) {
                    return i;
                }
            }
            return -9;
        }

        boolean free(int cell) {
            return at(cell % 6, cell / 6) == -9;
        }

        static boolean onHill(int x, int y) {
            return x >= 0 && x < 6 && y >= 0 && y < 6;
        }

        int look(int i, int way, int far) {
            int best = -9;
            int bestFar = far + 1;
            for (int j = 0; j < men.size(); j++) {
                int dx = man(j).x - man(i).x;
                int dy = man(j).y - man(i).y;
                int along = dx * DX[way] + dy * DY[way];
                boolean straight = DX[way] == 0 ? dx == 0 : dy == 0;
                if (straight && along > 0 && along < bestFar) {
                    best = j;
                    bestFar = along;
                }
            }
            return best;
        }

        int ahead(int i) {
            return look(i, man(i).faces, man(i).reach());
        }

        int lens(int i) {
            return look(i, (man(i).faces + 2) % 4, man(i).depth());
        }

        int watchers(int i) {
            int bits = 0;
            for (int j = 0; j < men.size(); j++) {
                if (j != i && ahead(j) == i) {
                    bits |= 1 << j;
                }
            }
            return bits;
        }

        void step(Man m, int way) {
            int x = m.x + DX[way];
            int y = m.y + DY[way];
            if (onHill(x, y) && at(x, y) == -9) {
                m.x = x;
                m.y = y;
            }
        }

        World night(int sleeper) {
            night++;
            for (int i = 0; i < men.size(); i++) {
                int seen = lens(i);
                if (i == sleeper || seen == -9) {
                    continue;
                }
                Man m = man(i);
                startEvents++;
                if (m.starts < 99) {
                    m.starts++;
                }
                if (m.kind == 3 || m.kind == 0 && ahead(seen) == i) {
                    m.faces = (m.faces + 2) % 4;
                } else if (m.kind == 1) {
                    m.faces = (m.faces + 1) % 4;
                } else if (m.kind == 2) {
                    step(m, (m.faces + 2) % 4);
                } else if (m.kind == 5) {
                    step(m, m.faces);
                }
            }
            return this;
        }

        World nights(int n) {
            for (int i = 0; i < n; i++) {
                night(-1);
            }
            return this;
        }

        int starts() {
            int sum = 0;
            for (Man m : men) {
                sum += m.starts;
            }
            return sum;
        }

        String places() {
            StringBuilder text = new StringBuilder();
            for (Man m : men) {
                text.append(m.cell()).append('/').append(m.faces).append(' ');
            }
            return text.toString();
        }

        void add(int kind, int figure, int cell, int faces) {
            Man m = new Man();
            m.kind = kind;
            m.figure = figure;
            m.cell(cell);
            m.faces = faces;
            men.add(m);
        }
    }

    private World now = new World();
    private World taken;
    private Deque<World> past = new ArrayDeque<>();
    private final StringBuilder letters = new StringBuilder();
    private final List<Integer> told = new ArrayList<>();
    private final Map<Integer, Integer> refused = new HashMap<>();

    private int no(int number) {
        refused.merge(number, 1, Integer::sum);
        return number;
    }

    private boolean is(int... people) {
        for (int p : people) {
            if (p < 0 || p >= now.men.size()) {
                return false;
            }
        }
        return true;
    }

    private static boolean in(int n, int least, int most) {
        return n >= least && n <= most;
    }

    private World ahead(int n) {
        return now.copy().nights(n);
    }

    private void keep() {
        past.push(now.copy());
        if (past.size() > 8) {
            past.removeLast();
        }
    }

    private int firstNight(Function<World, Boolean> so) {
        World w = now.copy();
        for (int n = 0; n <= 60; n++) {
            if (so.apply(w)) {
                return n;
            }
            w.night(-1);
        }
        return -9;
    }

    int feed(int letter) {
        if (letter < 0) {
            return no(-4);
        }
        if (letter > 255 || letters.length() == 96) {
            return no(-6);
        }
        letters.append((char) letter);
        return letters.length();
    }

    private static final Pattern WHOLE = Pattern.compile("(p[0-9]{5};|f[0-9]{2};|c[0-9]{3};|n[0-9]{2};)+");
    private static final Pattern ONE = Pattern.compile("[pfcn][0-9]*;");

    int hill() {
        String text = letters.toString();
        letters.setLength(0);
        if (!WHOLE.matcher(text).matches()) {
            for (int place = 0; place < text.length(); place++) {
                Matcher m = WHOLE.matcher(text.substring(0, place + 1));
                if (!m.matches() && !m.hitEnd()) {
                    return -1000 - place;
                }
            }
            return -1000 - text.length();
        }
        World w = now.copy();
        Matcher m = ONE.matcher(text);
        int many = 0;
        while (m.find()) {
            if (!statement(w, m.group())) {
                return -2000 - m.start();
            }
            many++;
        }
        now = w;
        past.clear();
        return many;
    }

    private static boolean statement(World w, String s) {
        int one = s.charAt(1) - '0';
        boolean known = one < w.men.size();
        if (s.charAt(0) == 'p') {
            int figure = s.charAt(2) - '0';
            int cell = Integer.parseInt(s.substring(3, 5));
            int faces = s.charAt(5) - '0';
            if (one > 5 || cell > 35 || faces > 3 || w.men.size() == 6 || !w.free(cell)) {
                return false;
            }
            w.add(one, figure, cell, faces);
            return true;
        }
        int rest = Integer.parseInt(s.substring(2, s.length() - 1));
        if (s.charAt(0) == 'f') {
            if (!known || rest > 3) {
                return false;
            }
            w.man(one).faces = rest;
            return true;
        }
        if (s.charAt(0) == 'c') {
            if (!known || rest > 35 || !w.free(rest)) {
                return false;
            }
            w.man(one).cell(rest);
            return true;
        }
        int n = Integer.parseInt(s.substring(1, 3));
        if (!in(n, 1, 60) || w.night + n > 999) {
            return false;
        }
        w.nights(n);
        return true;
    }

    int personOf(int person, int what) {
        if (!is(person)) {
            return no(-1);
        }
        if (!in(what, 0, 6)) {
            return no(-2);
        }
        Man m = now.man(person);
        return new int[] {m.kind, m.figure, m.cell(), m.faces, m.starts, m.reach(), m.depth()}[what];
    }

    int person(int kind, int figure, int cell, int faces) {
        if (!in(kind, 0, 5)) {
            return no(-2);
        }
        if (figure < 0) {
            return no(-4);
        }
        if (figure > 9 || now.men.size() == 6) {
            return no(-6);
        }
        if (!in(cell, 0, 35) || !in(faces, 0, 3)) {
            return no(-1);
        }
        if (!now.free(cell)) {
            return no(-3);
        }
        past.clear();
        now.add(kind, figure, cell, faces);
        return now.men.size() - 1;
    }

    int turns(int person, int faces) {
        if (!is(person) || !in(faces, 0, 3)) {
            return no(-1);
        }
        keep();
        int before = now.man(person).faces;
        now.man(person).faces = faces;
        return before;
    }

    int stands(int person, int cell) {
        if (!is(person) || !in(cell, 0, 35)) {
            return no(-1);
        }
        if (!now.free(cell)) {
            return no(-3);
        }
        keep();
        int before = now.man(person).cell();
        now.man(person).cell(cell);
        return before;
    }

    int nights(int n) {
        if (n < 1) {
            return no(-4);
        }
        if (n > 60 || now.night + n > 999) {
            return no(-6);
        }
        keep();
        return now.nights(n).starts();
    }

    int back() {
        if (past.isEmpty()) {
            return no(-3);
        }
        now = past.pop();
        return past.size();
    }

    int behind(int person, int n, int what) {
        if (!is(person)) {
            return no(-1);
        }
        if (!in(n, 0, 60)) {
            return no(n < 0 ? -4 : -6);
        }
        if (!in(what, 0, 5)) {
            return no(-2);
        }
        World w = ahead(n);
        Man m = w.man(person);
        return new int[] {m.cell(), m.faces, m.starts, w.ahead(person), w.lens(person), w.watchers(person)}[what];
    }

    int allStarts(int n) {
        if (!in(n, 0, 60)) {
            return no(n < 0 ? -4 : -6);
        }
        return ahead(n).starts();
    }

    int first(int person, int what) {
        if (!is(person)) {
            return no(-1);
        }
        if (!in(what, 0, 1)) {
            return no(-2);
        }
        return firstNight(w -> what == 0 ? w.watchers(person) != 0 : w.lens(person) != -9);
    }

    int still() {
        return firstNight(w -> w.copy().night(-1).places().equals(w.places()));
    }

    int unseen() {
        int bits = 0;
        for (int i = 0; i < now.men.size(); i++) {
            boolean seen = now.watchers(i) != 0;
            for (int j = 0; j < now.men.size(); j++) {
                seen |= now.lens(j) == i;
            }
            bits |= seen ? 0 : 1 << i;
        }
        return bits;
    }

    int chain(int person, int what) {
        if (!is(person)) {
            return no(-1);
        }
        if (!in(what, 0, 2)) {
            return no(-2);
        }
        List<Integer> links = links(person);
        int last = links.get(links.size() - 1);
        return new int[] {links.size(), now.lens(last) == -9 ? 0 : 1, last}[what];
    }

    private List<Integer> links(int person) {
        List<Integer> links = new ArrayList<>();
        for (int who = person; who != -9 && !links.contains(who); who = now.lens(who)) {
            links.add(who);
        }
        return links;
    }

    int deepest() {
        int best = -9;
        for (int i = now.men.size() - 1; i >= 0; i--) {
            if (best == -9 || links(i).size() >= links(best).size()) {
                best = i;
            }
        }
        return best;
    }

    int knows(int person, int d) {
        if (!is(person)) {
            return no(-1);
        }
        if (!in(d, 0, 6)) {
            return no(d < 0 ? -4 : -6);
        }
        return known(person, d);
    }

    private int known(int person, int d) {
        if (person == -9) {
            return 0;
        }
        return 1 << person | (d == 0 ? 0 : known(now.ahead(person), d - 1) | known(now.lens(person), d - 1));
    }

    int safe(int person, int what) {
        if (!is(person)) {
            return no(-1);
        }
        if (!in(what, 0, 1)) {
            return no(-2);
        }
        int bits = 0;
        int best = -9;
        for (int f = 3; f >= 0; f--) {
            World w = now.copy();
            w.man(person).faces = f;
            if (w.lens(person) == -9) {
                bits |= 1 << f;
                if (w.ahead(person) != -9) {
                    best = f;
                }
            }
        }
        return what == 0 ? bits : best;
    }

    int alone(int person, int what) {
        if (!is(person)) {
            return no(-1);
        }
        if (!in(what, 0, 1)) {
            return no(-2);
        }
        List<Integer> cells = new ArrayList<>();
        for (int c = 0; c < 36; c++) {
            World w = now.copy();
            w.man(person).cell(c);
            if (now.free(c) && w.watchers(person) == 0 && w.lens(person) == -9) {
                cells.add(c);
            }
        }
        return what == 0 ? cells.size() : cells.isEmpty() ? -9 : cells.get(0);
    }

    int turnAll() {
        int fewest = -9;
        int n = now.men.size();
        for (int all = 0; all < 1 << 2 * n; all++) {
            World w = now.copy();
            int turned = 0;
            for (int i = 0; i < n; i++) {
                int f = all >> 2 * i & 3;
                turned += f != w.man(i).faces ? 1 : 0;
                w.man(i).faces = f;
            }
            if ((fewest == -9 || turned < fewest) && nobodyWatches(w)) {
                fewest = turned;
            }
        }
        return fewest;
    }

    private static boolean nobodyWatches(World w) {
        for (int i = 0; i < w.men.size(); i++) {
            if (w.ahead(i) != -9) {
                return false;
            }
        }
        return true;
    }

    int post(int kind) {
        if (!in(kind, 0, 5)) {
            return no(-2);
        }
        int he = now.men.size();
        if (he == 6) {
            return no(-3);
        }
        for (int told = 0; told < 360; told++) {
            if (told % 10 > 3 || !now.free(told / 10)) {
                continue;
            }
            World w = now.copy();
            w.add(kind, 5, told / 10, told % 10);
            if (w.ahead(he) != -9 && w.lens(he) == -9 && w.watchers(he) == 0) {
                return told;
            }
        }
        return -9;
    }

    int which(int person, int what) {
        if (!is(person)) {
            return no(-1);
        }
        if (!in(what, 0, 2)) {
            return no(-2);
        }
        int bits = 0;
        for (int i = 0; i < new int[] {6, 10, 4}[what]; i++) {
            World w = now.copy();
            Man m = w.man(person);
            m.kind = what == 0 ? i : m.kind;
            m.figure = what == 1 ? i : m.figure;
            m.faces = what == 2 ? i : m.faces;
            boolean so = true;
            for (int n = 0; n < told.size(); n++) {
                so &= w.copy().nights(n).man(person).faces == told.get(n);
            }
            bits |= so ? 1 << i : 0;
        }
        return bits;
    }

    private World stepped(int person, int step) {
        World w = now.copy();
        Man m = w.man(person);
        if (step == 4) {
            return w;
        }
        int x = m.x + DX[step];
        int y = m.y + DY[step];
        if (!World.onHill(x, y) || now.at(x, y) != -9) {
            return null;
        }
        m.x = x;
        m.y = y;
        return w;
    }

    int bestStep(int person) {
        if (!is(person)) {
            return no(-1);
        }
        int best = -9;
        int fewest = 99;
        for (int s = 0; s <= 4; s++) {
            World w = stepped(person, s);
            if (w != null && Integer.bitCount(w.watchers(person)) < fewest) {
                fewest = Integer.bitCount(w.watchers(person));
                best = s;
            }
        }
        return best;
    }

    int two(int one, int other) {
        if (!is(one, other) || one == other) {
            return no(-1);
        }
        for (int f = 0; f < 4; f++) {
            for (int s = 0; s <= 4; s++) {
                if (stepped(other, s) == null) {
                    continue;
                }
                boolean stable = true;
                for (int g = 0; g < 4; g++) {
                    stable &= gain(one, other, g, s) <= gain(one, other, f, s);
                }
                for (int r = 0; r <= 4; r++) {
                    stable &= stepped(other, r) == null || -gain(one, other, f, r) <= -gain(one, other, f, s);
                }
                if (stable) {
                    return 10 * f + s;
                }
            }
        }
        return -9;
    }

    private int gain(int one, int other, int f, int s) {
        World w = stepped(other, s);
        w.man(one).faces = f;
        return w.ahead(one) == other || w.lens(one) == other ? 1 : 0;
    }

    long slept(int person, int f, int n, int t, int part) {
        long longNo = 4000000000000000000L;
        if (!is(person) || !in(f, 0, 3)) {
            return longNo - no(-1);
        }
        if (n < 0 || t < 2) {
            return longNo - no(-4);
        }
        if (n > 8 || t > 20) {
            return longNo - no(-6);
        }
        if (!in(part, 0, 1)) {
            return longNo - no(-2);
        }
        BigInteger above = BigInteger.ZERO;
        for (int asleep = 0; asleep < 1 << n; asleep++) {
            World w = now.copy();
            BigInteger ways = BigInteger.ONE;
            for (int i = 0; i < n; i++) {
                boolean sleeps = (asleep >> i & 1) == 1;
                w.night(sleeps ? person : -1);
                ways = ways.multiply(BigInteger.valueOf(sleeps ? 1 : t - 1));
            }
            above = w.man(person).faces == f ? above.add(ways) : above;
        }
        BigInteger below = BigInteger.valueOf(t).pow(n);
        BigInteger common = above.gcd(below);
        return (part == 0 ? above : below).divide(common).longValueExact();
    }

    int busiest(int what) {
        if (!in(what, 0, 1)) {
            return no(-2);
        }
        int[] best = {-9, -9};
        for (int i = 0; i < now.men.size(); i++) {
            if (Integer.bitCount(now.watchers(i)) > best[1]) {
                best = new int[] {i, Integer.bitCount(now.watchers(i))};
            }
        }
        return best[what];
    }

    int twos(int what) {
        if (!in(what, 0, 1)) {
            return no(-2);
        }
        int many = 0;
        for (int i = 0; i < now.men.size(); i++) {
            for (int j = 0; j < i; j++) {
                boolean so = what == 0
                    ? now.ahead(i) == j && now.ahead(j) == i
                    : now.lens(i) == j && now.lens(j) == i;
                many += so ? 1 : 0;
            }
        }
        return many;
    }

    private static int apart(Man a, Man b) {
        return Math.abs(a.x - b.x) + Math.abs(a.y - b.y);
    }

    int nearest(int what) {
        if (!in(what, 0, 1)) {
            return no(-2);
        }
        int[] best = {-9, -9};
        for (int told = 1; told < 60; told++) {
            int i = told / 10;
            int j = told % 10;
            if (i < j && is(i, j)) {
                int apart = apart(now.man(i), now.man(j));
                if (best[0] == -9 || apart < best[1]) {
                    best = new int[] {told, apart};
                }
            }
        }
        return best[what];
    }

    int lines() {
        Map<String, Integer> many = new HashMap<>();
        for (Man m : now.men) {
            many.merge("row " + m.y, 1, Integer::sum);
            many.merge("column " + m.x, 1, Integer::sum);
        }
        int lines = 0;
        for (int n : many.values()) {
            lines += n >= 2 ? 1 : 0;
        }
        return lines;
    }

    int hidden() {
        int bits = (1 << now.men.size()) - 1;
        for (int i = 0; i < now.men.size(); i++) {
            int seen = now.look(i, now.man(i).faces, 5);
            bits &= seen == -9 ? -1 : ~(1 << seen);
        }
        return bits;
    }

    int longest() {
        int best = -9;
        for (int i = 0; i < now.men.size(); i++) {
            if (best == -9 || now.man(i).reach() > now.man(best).reach()) {
                best = i;
            }
        }
        return best;
    }

    int walks(int person, int n, int what) {
        if (!is(person)) {
            return no(-1);
        }
        if (!in(n, 0, 60)) {
            return no(n < 0 ? -4 : -6);
        }
        if (!in(what, 0, 1)) {
            return no(-2);
        }
        int[] many = {0, 0};
        World w = now.copy();
        for (int i = 0; i < n; i++) {
            Man before = w.man(person).copy();
            w.night(-1);
            many[0] += apart(before, w.man(person));
            many[1] += before.faces == w.man(person).faces ? 0 : 1;
        }
        return many[what];
    }

    int meets(int one, int other) {
        if (!is(one, other) || one == other) {
            return no(-1);
        }
        return firstNight(w -> apart(w.man(one), w.man(other)) == 1);
    }

    int leave(int person, int other) {
        if (!is(person, other) || person == other) {
            return no(-1);
        }
        World w = now.copy();
        w.man(other).x = 100;
        w.man(other).y = 100;
        return w.watchers(person) & ~(1 << other);
    }

    int most(int person, int what) {
        if (!is(person)) {
            return no(-1);
        }
        if (!in(what, 0, 1)) {
            return no(-2);
        }
        int[] best = {-9, -9};
        for (int c = 0; c < 36; c++) {
            World w = now.copy();
            w.man(person).cell(c);
            int many = Integer.bitCount(w.watchers(person));
            if (now.free(c) && many > best[1]) {
                best = new int[] {c, many};
            }
        }
        return best[what];
    }

    int quiet(int n) {
        if (!in(n, 0, 60)) {
            return no(n < 0 ? -4 : -6);
        }
        return ahead(n).startEvents == 0 ? 1 : 0;
    }

    int row(int v) {
        if (v < 0) {
            return no(-4);
        }
        if (v > 99 || told.size() == 12) {
            return no(-6);
        }
        told.add(v);
        return told.size();
    }

    int judge() {
        int answer = -9;
        for (int i = told.size() - 1; i >= 0; i--) {
            if (!is(i) || now.man(i).cell() != told.get(i)) {
                answer = i;
            }
        }
        told.clear();
        return answer;
    }

    int clear() {
        int many = told.size();
        told.clear();
        return many;
    }

    int lots(int n, int z, int what) {
        if (n < 1) {
            return no(-4);
        }
        if (n > 20) {
            return no(-6);
        }
        if (!in(what, 0, 1)) {
            return no(-2);
        }
        long[] sums = {0, 0};
        BigInteger seed = BigInteger.valueOf(z);
        for (int i = 0; i < n; i++) {
            World w = now.copy();
            for (Man m : w.men) {
                seed = seed.multiply(BigInteger.valueOf(1103515245)).add(BigInteger.valueOf(12345));
                m.faces = seed.mod(BigInteger.ONE.shiftLeft(31)).shiftRight(16).mod(BigInteger.valueOf(4)).intValue();
            }
            w.nights(10);
            sums[0] += w.starts() - now.starts();
            for (int j = 0; j < w.men.size(); j++) {
                sums[1] += Integer.bitCount(w.watchers(j));
            }
        }
        return (int) sums[what];
    }

    int image() {
        taken = now.copy();
        return now.night;
    }

    int restore() {
        if (taken == null) {
            return no(-3);
        }
        now = taken.copy();
        past.clear();
        return now.night;
    }

    int count(int what) {
        int ahead = 0;
        int lens = 0;
        for (int i = 0; i < now.men.size(); i++) {
            ahead += now.ahead(i) != -9 ? 1 : 0;
            lens += now.lens(i) != -9 ? 1 : 0;
        }
        int[] first = {now.men.size(), now.night, now.starts(), ahead, lens, letters.length(), told.size(), past.size()};
        if (in(what, 0, 7)) {
            return first[what];
        }
        return in(what, 11, 16) ? refused.getOrDefault(10 - what, 0) : -9;
    }
}
