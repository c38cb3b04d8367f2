import java.util.ArrayDeque;
import java.util.ArrayList;
import java.util.Arrays;
import java.util.List;
import java.util.TreeSet;
import java.util.regex.Matcher;
import java.util.regex.Pattern;

/**
 * The document once more, held in another way: links without direction and the set of roots.
 * Who is above whom is found anew each time, so an error in turning a way over can't hide.
 */
final class TownModel {
    private static final List<String> LANGUAGE = Arrays.asList("town", "link", "root", "touch", "settle", "seed");

    /** All that undo and images bring back. */
    private static final class State {
        final List<int[]> links = new ArrayList<>();
        final TreeSet<Integer> roots = new TreeSet<>();
        final List<Integer> prefers = new ArrayList<>();
        final List<Integer> values = new ArrayList<>();
        int switches;

        State copy() {
            State c = new State();
            for (int[] link : links) {
                c.links.add(link.clone());
            }
            c.roots.addAll(roots);
            c.prefers.addAll(prefers);
            c.values.addAll(values);
            c.switches = switches;
            return c;
        }
    }

    private State now = new State();
    private List<String> names = new ArrayList<>();
    private int seed;
    private StringBuilder tape = new StringBuilder();
    private final ArrayDeque<State> done = new ArrayDeque<>();
    private State image;
    private int[] sight;
    private int fault;
    private int place = -1;

    private int n() {
        return names.size();
    }

    private boolean no(int... towns) {
        for (int t : towns) {
            if (t < 0 || t >= n()) {
                return true;
            }
        }
        return false;
    }

    /** The towns from a to b, by a search over the links; empty if there is no way. */
    private List<Integer> way(int a, int b) {
        int[] from = new int[n()];
        Arrays.fill(from, -9);
        ArrayDeque<Integer> queue = new ArrayDeque<>();
        queue.add(b);
        from[b] = b;
        while (!queue.isEmpty()) {
            int t = queue.remove();
            for (int[] link : now.links) {
                if (link[0] == t || link[1] == t) {
                    int other = link[0] + link[1] - t;
                    if (from[other] == -9) {
                        from[other] = t;
                        queue.add(other);
                    }
                }
            }
        }
        List<Integer> way = new ArrayList<>();
        if (from[a] == -9) {
            return way;
        }
        way.add(a);
        while (way.get(way.size() - 1) != b) {
            way.add(from[way.get(way.size() - 1)]);
        }
        return way;
    }

    private int root(int t) {
        for (int r : now.roots) {
            if (!way(r, t).isEmpty()) {
                return r;
            }
        }
        throw new IllegalStateException("no root");
    }

    private List<Integer> down(int t) {
        return way(root(t), t);
    }

    private int parent(int t) {
        List<Integer> down = down(t);
        return down.size() < 2 ? -2 : down.get(down.size() - 2);
    }

    private int[] linkOf(int a, int b) {
        for (int[] link : now.links) {
            if (link[0] == a && link[1] == b || link[0] == b && link[1] == a) {
                return link;
            }
        }
        return null;
    }

    private List<Integer> treeOf(int t) {
        List<Integer> tree = new ArrayList<>();
        for (int i = 0; i < n(); i++) {
            if (!way(i, t).isEmpty()) {
                tree.add(i);
            }
        }
        return tree;
    }

    private List<Integer> children(int t) {
        List<Integer> children = new ArrayList<>();
        for (int i = 0; i < n(); i++) {
            if (parent(i) == t) {
                children.add(i);
            }
        }
        return children;
    }

    private List<Integer> beneath(int t) {
        List<Integer> all = new ArrayList<>();
        for (int i = 0; i < n(); i++) {
            if (down(i).contains(t)) {
                all.add(i);
            }
        }
        return all;
    }

    private int fars(List<Integer> way) {
        int sum = 0;
        for (int i = 0; i + 1 < way.size(); i++) {
            sum += linkOf(way.get(i), way.get(i + 1))[2];
        }
        return sum;
    }

    private int least(List<Integer> way, int field) {
        int least = -2;
        for (int i = 0; i + 1 < way.size(); i++) {
            int here = linkOf(way.get(i), way.get(i + 1))[field];
            least = least == -2 ? here : Math.min(least, here);
        }
        return least;
    }

    /** Which link of a way is its dearest, -1 without links. */
    private int dearestAt(List<Integer> way) {
        int at = -1;
        for (int i = way.size() - 2; i >= 0; i--) {
            if (at < 0 || linkOf(way.get(i), way.get(i + 1))[2] >= linkOf(way.get(at), way.get(at + 1))[2]) {
                at = i;
            }
        }
        return at;
    }

    private void doTouch(int t) {
        List<Integer> down = down(t);
        for (int i = 0; i + 1 < down.size(); i++) {
            if (!now.prefers.get(down.get(i)).equals(down.get(i + 1))) {
                now.switches++;
            }
            now.prefers.set(down.get(i), down.get(i + 1));
        }
        now.prefers.set(t, -2);
    }

    private void doReroot(int t) {
        doTouch(t);
        List<Integer> down = down(t);
        now.roots.remove(down.get(0));
        now.roots.add(t);
        now.prefers.set(down.get(0), -2);
        for (int i = 1; i < down.size(); i++) {
            now.prefers.set(down.get(i), down.get(i - 1));
        }
    }

    private void doWalk(int a, int b) {
        doReroot(a);
        doTouch(b);
    }

    private void doLink(int a, int b, int length, int cap) {
        doWalk(a, b);
        now.roots.remove(a);
        now.links.add(new int[] {a, b, length, cap});
    }

    private int doCut(int a, int b) {
        int length = linkOf(a, b)[2];
        doWalk(a, b);
        now.links.remove(linkOf(a, b));
        now.roots.add(b);
        now.prefers.set(a, -2);
        return length;
    }

    private int doCutDearest(List<Integer> way) {
        int at = dearestAt(way);
        return doCut(way.get(at), way.get(at + 1));
    }

    private int doSettle(int t) {
        int changed = 0;
        for (int i : treeOf(t)) {
            int child = heavy(i);
            if (now.prefers.get(i) != child) {
                changed++;
            }
            now.prefers.set(i, child);
        }
        return changed;
    }

    private void step() {
        done.addLast(now.copy());
        if (done.size() > 20) {
            done.removeFirst();
        }
    }

    // ---- the face

    int feed(int a, int b, int c, int d, int e) {
        if (tape.length() > 680) {
            return -1;
        }
        for (int number : new int[] {a, b, c, d, e}) {
            for (byte x : java.nio.ByteBuffer.allocate(4).putInt(number).array()) {
                tape.append((char) (x & 255));
            }
        }
        return tape.length();
    }

    int text(int n) {
        if (n < 0 || n > tape.length()) {
            return -2;
        }
        String text = tape.substring(0, n);
        tape = new StringBuilder();
        TownModel told = new TownModel();
        int lines = told.tell(text);
        fault = told.fault;
        place = told.place;
        if (fault != 0) {
            return -1;
        }
        now = told.now;
        now.switches = 0;
        names = told.names;
        seed = told.seed;
        done.clear();
        image = null;
        sight = null;
        return lines;
    }

    private int tell(String text) {
        Matcher m = Pattern.compile("[a-z]+|-?[0-9]+|;|[^ \n]").matcher(text);
        List<String> tokens = new ArrayList<>();
        List<Integer> places = new ArrayList<>();
        while (m.find()) {
            tokens.add(m.group());
            places.add(m.start());
        }
        tokens.add("");
        places.add(text.length());
        boolean seedTold = false;
        int lines = 0;
        int at = 0;
        while (at < tokens.size() - 1) {
            String word = tokens.get(at);
            String form = word.equals("town") ? "nm" : word.equals("link") ? "wxll"
                    : word.equals("seed") ? "s" : LANGUAGE.contains(word) ? "w" : "?";
            fault = form.equals("?") ? 1 : word.equals("town") && n() == 24 ? 2
                    : word.equals("seed") && seedTold ? 3 : 0;
            place = places.get(at);
            int first = at + 1;
            for (int i = 0; i <= form.length() && fault == 0; i++) {
                at++;
                place = places.get(at);
                fault = faultOf(i == form.length() ? ';' : form.charAt(i), tokens.get(at), tokens.get(at - 1));
            }
            if (fault != 0) {
                return -1;
            }
            place = -1;
            at++;
            lines++;
            seedTold |= word.equals("seed");
            doLine(word, tokens.subList(first, at));
        }
        return lines;
    }

    private int faultOf(char kind, String token, String ahead) {
        boolean name = token.matches("[a-z]{1,6}") && !LANGUAGE.contains(token);
        switch (kind) {
            case ';':
                return token.equals(";") ? 0 : 1;
            case 'n':
                return !name ? 1 : names.contains(token) ? 3 : 0;
            case 'w':
                return !name ? 1 : names.contains(token) ? 0 : 4;
            case 'x':
                return !name ? 1 : !names.contains(token) ? 4
                        : way(names.indexOf(ahead), names.indexOf(token)).isEmpty() ? 0 : 3;
            default:
                if (!token.matches(kind == 'm' ? "-?[0-9]+" : "[0-9]+")) {
                    return 1;
                }
                java.math.BigInteger number = new java.math.BigInteger(token);
                long least = kind == 'm' ? -9999 : kind == 'l' ? 1 : 0;
                long most = kind == 's' ? 99999 : 9999;
                return number.compareTo(java.math.BigInteger.valueOf(least)) < 0
                        || number.compareTo(java.math.BigInteger.valueOf(most)) > 0 ? 2 : 0;
        }
    }

    private void doLine(String word, List<String> rest) {
        if (word.equals("town")) {
            now.roots.add(n());
            names.add(rest.get(0));
            now.values.add(Integer.parseInt(rest.get(1)));
            now.prefers.add(-2);
        } else if (word.equals("seed")) {
            seed = Integer.parseInt(rest.get(0));
        } else {
            int a = names.indexOf(rest.get(0));
            if (word.equals("link")) {
                doLink(a, names.indexOf(rest.get(1)), Integer.parseInt(rest.get(2)), Integer.parseInt(rest.get(3)));
            } else if (word.equals("root")) {
                doReroot(a);
            } else if (word.equals("touch")) {
                doTouch(a);
            } else {
                doSettle(a);
            }
        }
    }

    int fault(int what) {
        return what == 0 ? fault : what == 1 ? place : -1;
    }

    int named(int letters) {
        for (int i = 0; i < n(); i++) {
            if (Check.letters(names.get(i)) == letters) {
                return i;
            }
        }
        return -1;
    }

    int touch(int t) {
        if (no(t)) {
            return -1;
        }
        step();
        doTouch(t);
        return now.switches - done.getLast().switches;
    }

    int reroot(int t) {
        if (no(t)) {
            return -1;
        }
        step();
        doReroot(t);
        return now.switches - done.getLast().switches;
    }

    private static boolean out(int x, int least, int most) {
        return x < least || x > most;
    }

    int link(int a, int b, int length, int cap) {
        if (no(a, b) || out(length, 1, 9999) || out(cap, 1, 9999)) {
            return -1;
        }
        if (!way(a, b).isEmpty()) {
            return -2;
        }
        step();
        doLink(a, b, length, cap);
        return treeOf(a).size();
    }

    int cut(int a, int b) {
        if (no(a, b)) {
            return -1;
        }
        if (linkOf(a, b) == null) {
            return -2;
        }
        step();
        return doCut(a, b);
    }

    int walk(int a, int b) {
        if (no(a, b)) {
            return -1;
        }
        List<Integer> way = way(a, b);
        if (way.isEmpty()) {
            return -2;
        }
        step();
        doWalk(a, b);
        int at = dearestAt(way);
        int values = 0;
        for (int t : way) {
            values += now.values.get(t);
        }
        sight = new int[] {fars(way), at < 0 ? -2 : linkOf(way.get(at), way.get(at + 1))[2],
            at < 0 ? -2 : way.get(at), at < 0 ? -2 : way.get(at + 1), least(way, 3), values, way.size(),
            now.switches - done.getLast().switches, least(way, 2)};
        return sight[0];
    }

    int seen(int what) {
        return out(what, 0, 8) ? -1 : sight == null ? -3 : sight[what];
    }

    int meet(int a, int b) {
        int meeting = meets(a, b);
        if (meeting >= 0) {
            step();
            doTouch(a);
            doTouch(b);
        }
        return meeting;
    }

    private int change(int a, int b, int more, int field, int least) {
        if (no(a, b) || out(more, -9999, 9999)) {
            return -1;
        }
        List<Integer> way = way(a, b);
        if (way.isEmpty()) {
            return -2;
        }
        for (int i = 0; i + 1 < way.size(); i++) {
            if (out(linkOf(way.get(i), way.get(i + 1))[field] + more, least, 9999)) {
                return -3;
            }
        }
        step();
        doWalk(a, b);
        for (int i = 0; i + 1 < way.size(); i++) {
            linkOf(way.get(i), way.get(i + 1))[field] += more;
        }
        return way.size() - 1;
    }

    int raise(int a, int b, int d) {
        return change(a, b, d, 2, 1);
    }

    int cutDearest(int a, int b) {
        if (no(a, b)) {
            return -1;
        }
        List<Integer> way = way(a, b);
        if (way.size() < 2) {
            return -2;
        }
        step();
        doWalk(a, b);
        return doCutDearest(way);
    }

    int send(int a, int b, int n) {
        return change(a, b, -n, 3, 0);
    }

    int settle(int t) {
        if (no(t)) {
            return -1;
        }
        step();
        return doSettle(t);
    }

    int exchange(int a, int b, int length, int cap) {
        if (no(a, b) || out(length, 1, 9999) || out(cap, 1, 9999)) {
            return -1;
        }
        List<Integer> way = way(a, b);
        int gone = 0;
        if (!way.isEmpty()) {
            int at = dearestAt(way);
            if (at < 0 || linkOf(way.get(at), way.get(at + 1))[2] <= length) {
                return -2;
            }
            step();
            doWalk(a, b);
            gone = doCutDearest(way);
        } else {
            step();
        }
        doLink(a, b, length, cap);
        return gone;
    }

    int shed(int t) {
        if (no(t)) {
            return -1;
        }
        if (parent(t) < 0) {
            return -2;
        }
        step();
        return doCut(parent(t), t);
    }

    int value(int t, int v) {
        if (no(t) || out(v, -9999, 9999)) {
            return -20000;
        }
        step();
        return now.values.set(t, v);
    }

    int town(int t, int what) {
        if (no(t)) {
            return 1000001;
        }
        int upper = parent(t);
        switch (what) {
            case 0:
                return now.values.get(t);
            case 1:
                return upper;
            case 2:
                return now.prefers.get(t);
            case 3:
                return root(t);
            case 4:
                return down(t).size() - 1;
            case 5:
                return beneath(t).size();
            case 6:
                return beneath(t).stream().mapToInt(now.values::get).sum();
            case 7:
                return upper < 0 ? -2 : linkOf(t, upper)[2];
            case 8:
                return upper < 0 ? -2 : linkOf(t, upper)[3];
            case 9:
                return children(t).size();
            default:
                return 1000002;
        }
    }

    int chain(int t, int what) {
        if (no(t)) {
            return -1;
        }
        ArrayDeque<Integer> chain = new ArrayDeque<>(List.of(t));
        while (now.prefers.indexOf(chain.getFirst()) >= 0) {
            chain.addFirst(now.prefers.indexOf(chain.getFirst()));
        }
        while (now.prefers.get(chain.getLast()) >= 0) {
            chain.addLast(now.prefers.get(chain.getLast()));
        }
        List<Integer> row = new ArrayList<>(chain);
        int[] facts = {row.get(0), row.get(row.size() - 1), row.size(), row.indexOf(t), fars(row)};
        return out(what, 0, 4) ? -1 : facts[what];
    }

    int above(int t, int k) {
        if (no(t) || k < 0) {
            return -1;
        }
        List<Integer> down = down(t);
        return k >= down.size() ? -2 : down.get(down.size() - 1 - k);
    }

    int along(int a, int b, int k) {
        if (no(a, b) || k < 0) {
            return -1;
        }
        List<Integer> way = way(a, b);
        return k >= way.size() ? -2 : way.get(k);
    }

    int together(int a, int b) {
        return no(a, b) ? -1 : way(a, b).isEmpty() ? 0 : 1;
    }

    int far(int a, int b) {
        return no(a, b) ? -1 : way(a, b).isEmpty() ? -2 : fars(way(a, b));
    }

    int meets(int a, int b) {
        if (no(a, b)) {
            return -1;
        }
        int meeting = -2;
        List<Integer> over = down(b);
        for (int t : down(a)) {
            if (over.contains(t)) {
                meeting = t;
            }
        }
        return meeting;
    }

    int room(int a, int b) {
        return no(a, b) ? -1 : least(way(a, b), 3);
    }

    private void order(int t, List<Integer> row) {
        row.add(t);
        int first = now.prefers.get(t);
        if (first >= 0) {
            order(first, row);
        }
        for (int child : children(t)) {
            if (child != first) {
                order(child, row);
            }
        }
    }

    private List<Integer> orderOf(int t) {
        List<Integer> row = new ArrayList<>();
        order(root(t), row);
        return row;
    }

    int order(int t, int k) {
        if (no(t) || k < 0) {
            return -1;
        }
        List<Integer> row = orderOf(t);
        return k >= row.size() ? -2 : row.get(k);
    }

    int place(int t) {
        return no(t) ? -1 : orderOf(t).indexOf(t);
    }

    int joint(int a, int b, int what) {
        if (no(a, b) || out(what, 0, 2)) {
            return -1;
        }
        if (!way(a, b).isEmpty()) {
            return -2;
        }
        int[] best = null;
        for (int u : treeOf(a)) {
            for (int v : treeOf(b)) {
                now.links.add(new int[] {u, v, 1, 1});
                int wide = wide(u)[0];
                now.links.remove(now.links.size() - 1);
                if (best == null || wide < best[0]) {
                    best = new int[] {wide, u, v};
                }
            }
        }
        return best[what];
    }

    private int[] wide(int t) {
        int[] best = {0, t, t};
        List<Integer> tree = treeOf(t);
        for (int u : tree) {
            for (int v : tree) {
                if (u < v && fars(way(u, v)) > best[0]) {
                    best = new int[] {fars(way(u, v)), u, v};
                }
            }
        }
        return best;
    }

    private int extreme(int t, int what, int sign) {
        if (no(t)) {
            return -1;
        }
        int best = -2;
        for (int u : treeOf(t)) {
            if (parent(u) >= 0 && (best < 0 || sign * town(u, what) > sign * town(best, what))) {
                best = u;
            }
        }
        return best;
    }

    int tightest(int t) {
        return extreme(t, 8, -1);
    }

    int heavy(int t) {
        if (no(t)) {
            return -1;
        }
        for (int child : children(t)) {
            if (beneath(child).size() * 2 > beneath(t).size()) {
                return child;
            }
        }
        return -2;
    }

    int potential() {
        int found = 0;
        for (int t = 0; t < n(); t++) {
            if (heavy(t) >= 0 && heavy(t) != now.prefers.get(t)) {
                found++;
            }
        }
        return found;
    }

    int would(int t) {
        if (no(t)) {
            return -1;
        }
        State was = now;
        now = was.copy();
        doTouch(t);
        int took = now.switches - was.switches;
        now = was;
        return took;
    }

    int widest(int t, int what) {
        return no(t) || out(what, 0, 2) ? -1 : wide(t)[what];
    }

    int midst(int t) {
        if (no(t)) {
            return -1;
        }
        int best = -1;
        int fewest = 99;
        List<Integer> tree = treeOf(t);
        for (int u : tree) {
            int greatest = 0;
            for (int v : tree) {
                int part = 0;
                for (int w : tree) {
                    if (v != u && w != u && !way(v, w).contains(u)) {
                        part++;
                    }
                }
                greatest = Math.max(greatest, part);
            }
            if (greatest < fewest) {
                best = u;
                fewest = greatest;
            }
        }
        return best;
    }

    int parts(int n) {
        if (out(n, 0, 9999)) {
            return -1;
        }
        State was = now;
        now = was.copy();
        now.links.removeIf(link -> link[2] > n);
        int trees = 0;
        for (int t = 0; t < n(); t++) {
            if (treeOf(t).get(0) == t) {
                trees++;
            }
        }
        now = was;
        return trees;
    }

    int dearest(int t) {
        return extreme(t, 7, 1);
    }

    int leastFor(int k) {
        if (out(k, 1, 24)) {
            return -1;
        }
        for (int least = 0; least <= 9999; least++) {
            int there = least;
            if (n() - now.links.stream().filter(link -> link[2] <= there).count() <= k) {
                return least;
            }
        }
        return -2;
    }

    private long last;

    private int draw(int modulo) {
        last = (last * 1103515245L + 12345L) % (1L << 31);
        return (int) (last / 65536 % modulo);
    }

    int chance(int from, int times, int what) {
        if (from < -1 || out(times, 1, 60) || out(what, 0, 3) || n() == 0) {
            return -1;
        }
        State was = now;
        now = was.copy();
        last = from == -1 ? seed : from;
        for (int i = 0; i < times; i++) {
            int kind = draw(4);
            int a = draw(n());
            int b = draw(n());
            List<Integer> way = way(a, b);
            if (kind == 0) {
                doTouch(a);
            } else if (kind == 1) {
                doReroot(a);
            } else if (kind == 2 && way.isEmpty()) {
                doLink(a, b, 1 + draw(100), 1);
            } else if (kind == 3 && way.size() > 1) {
                doCutDearest(way);
            }
        }
        int[] facts = {now.roots.size(), now.switches - was.switches, potential(), root(0)};
        now = was;
        return facts[what];
    }

    int undo() {
        if (done.isEmpty()) {
            return -1;
        }
        now = done.removeLast();
        return done.size();
    }

    int keep() {
        image = now.copy();
        return now.roots.size();
    }

    int back() {
        if (image == null) {
            return -1;
        }
        now = image.copy();
        done.clear();
        return now.roots.size();
    }

    int count(int what) {
        int chains = n();
        for (int p : now.prefers) {
            chains -= p >= 0 ? 1 : 0;
        }
        int[] facts = {n(), now.links.size(), now.roots.size(), chains, now.switches, done.size(), tape.length()};
        return out(what, 0, 6) ? -1 : facts[what];
    }
}
