import java.util.ArrayList;
import java.util.Arrays;
import java.util.HashMap;
import java.util.HashSet;
import java.util.List;
import java.util.Map;
import java.util.Random;
import java.util.Set;

/**
 * Random runs of calls, each answer held against a second, slow and plain telling of the document
 * (texts by recursive descent over a list of tokens, plans by trying all, NIGHTS as a tree).
 */
public final class AgainstModel {
    private static final List<String> RESERVED = Arrays.asList("room", "floor", "area", "bears", "water", "door",
            "from", "to", "sill", "wide", "leaks", "tide", "pump", "rota", "errand", "by", "sea", "hour", "open",
            "shut", "bail", "any", "when", "wet", "depth", "loop", "end", "stop");

    // ------------------------------------------------------------------ the model

    private static final class Fault extends RuntimeException {
        final int kind;
        final int place;

        Fault(int kind, int place) {
            super(null, null, false, false);
            this.kind = kind;
            this.place = place;
        }
    }

    private static final class Stopped extends RuntimeException {
        Stopped() {
            super(null, null, false, false);
        }
    }

    private static final class Room implements Cloneable {
        String name;
        int floor;
        int area = 1;
        int bears = 10;
        int water;
        int pump;
        int mark;
        boolean drowned;

        int depth() {
            return water / area;
        }

        Room copy() {
            try {
                return (Room) clone();
            } catch (CloneNotSupportedException e) {
                throw new IllegalStateException(e);
            }
        }
    }

    private static final class Door implements Cloneable {
        String name;
        int a;
        int b;
        int sill;
        int wide = 1;
        int leaks;
        boolean held;
        boolean walled;
        boolean[] rota = new boolean[12];

        Door copy() {
            try {
                Door d = (Door) clone();
                d.rota = rota.clone();
                return d;
            } catch (CloneNotSupportedException e) {
                throw new IllegalStateException(e);
            }
        }
    }

    private static final class Errand {
        String name;
        int door;
        int from;
        int to;
    }

    private static final class World {
        List<Room> rooms = new ArrayList<>();
        List<Door> doors = new ArrayList<>();
        List<Errand> errands = new ArrayList<>();
        int[] tide = new int[12];
        int hour;
        long[] gone = new long[10];

        World() {
            Arrays.fill(tide, 10);
        }

        World copy() {
            World w = new World();
            for (Room r : rooms) {
                w.rooms.add(r.copy());
            }
            for (Door d : doors) {
                w.doors.add(d.copy());
            }
            w.errands.addAll(errands);
            w.tide = tide.clone();
            w.hour = hour;
            return w;
        }

        int surface(int end) {
            return end < 0 ? tide[hour % 12] : rooms.get(end).floor + rooms.get(end).depth();
        }

        boolean isOpen(Door d) {
            return !d.walled && (d.held || d.rota[hour % 12]);
        }

        int drive(Door d) {
            int hi = Math.max(surface(d.a), surface(d.b));
            int lo = Math.min(surface(d.a), surface(d.b));
            int drive = Math.min(hi - d.sill, hi - lo);
            return drive < 0 ? 0 : drive;
        }

        int signed(Door d, int much) {
            return surface(d.a) < surface(d.b) ? -much : much;
        }

        int flow(Door d) {
            if (d.walled) {
                return 0;
            }
            int full = drive(d) * d.wide;
            return signed(d, isOpen(d) ? full : Math.min(full, d.leaks));
        }

        void hour(boolean pumps) {
            int[] flows = new int[doors.size()];
            for (int i = 0; i < flows.length; i++) {
                flows[i] = flow(doors.get(i));
            }
            for (int i = 0; i < flows.length; i++) {
                Door d = doors.get(i);
                int src = flows[i] < 0 ? d.b : d.a;
                int dst = flows[i] < 0 ? d.a : d.b;
                int n = Math.abs(flows[i]);
                if (src >= 0) {
                    n = Math.min(n, rooms.get(src).water);
                    rooms.get(src).water -= n;
                }
                if (dst >= 0) {
                    rooms.get(dst).water = Math.min(9999, rooms.get(dst).water + n);
                }
                gone[i] += n;
            }
            for (Room r : rooms) {
                if (pumps) {
                    r.water = Math.max(0, r.water - r.pump);
                }
                if (r.depth() > r.bears) {
                    r.drowned = true;
                }
                r.mark = Math.max(r.mark, r.depth());
            }
            hour++;
        }

        World go(int hours) {
            for (int i = 0; i < hours; i++) {
                hour(true);
            }
            return this;
        }

        int water() {
            int sum = 0;
            for (Room r : rooms) {
                sum += r.water;
            }
            return sum;
        }

        int drowned() {
            int set = 0;
            for (int i = 0; i < rooms.size(); i++) {
                if (rooms.get(i).drowned) {
                    set += 1 << i;
                }
            }
            return set;
        }

        int wet() {
            int set = 0;
            for (int i = 0; i < rooms.size(); i++) {
                if (rooms.get(i).depth() > 0) {
                    set += 1 << i;
                }
            }
            return set;
        }

        World justOpen(int set) {
            for (int i = 0; i < doors.size(); i++) {
                doors.get(i).rota = new boolean[12];
                doors.get(i).held = (set >> i) % 2 == 1;
            }
            return this;
        }

        boolean leads(int from, int to, int without, boolean overSea) {
            Set<Integer> seen = new HashSet<>();
            List<Integer> todo = new ArrayList<>();
            todo.add(from);
            while (!todo.isEmpty()) {
                int at = todo.remove(0);
                if (!seen.add(at) || at < 0 && !overSea) {
                    continue;
                }
                for (int i = 0; i < doors.size(); i++) {
                    Door d = doors.get(i);
                    if (d.walled || (without >> i) % 2 == 1) {
                        continue;
                    }
                    if (d.a == at) {
                        todo.add(d.b);
                    }
                    if (d.b == at) {
                        todo.add(d.a);
                    }
                }
            }
            return seen.contains(to);
        }
    }

    private static final class Step {
        String word;
        int thing;
        char sign;
        int number;
        List<Step> body;
    }

    private static final class Token {
        int place;
        String text = "";
        boolean bad;

        boolean isNumber() {
            return !text.isEmpty() && Character.isDigit(text.charAt(0));
        }

        boolean isWord() {
            return !text.isEmpty() && Character.isLowerCase(text.charAt(0));
        }

        boolean isName() {
            return isWord() && text.length() <= 8 && !RESERVED.contains(text);
        }
    }

    private static final class Parser {
        final List<Token> tokens = new ArrayList<>();
        int at;

        Parser(String s) {
            int i = 0;
            while (i < s.length()) {
                char c = s.charAt(i);
                if (c == ' ' || c == '\n') {
                    i++;
                    continue;
                }
                Token t = new Token();
                t.place = i;
                int j = i + 1;
                if (c >= 'a' && c <= 'z') {
                    while (j < s.length() && s.charAt(j) >= 'a' && s.charAt(j) <= 'z') {
                        j++;
                    }
                } else if (c >= '0' && c <= '9') {
                    while (j < s.length() && s.charAt(j) >= '0' && s.charAt(j) <= '9') {
                        j++;
                    }
                    t.bad = j - i > 4;
                } else {
                    t.bad = ";<>=".indexOf(c) < 0;
                }
                t.text = t.bad ? "" : s.substring(i, j);
                tokens.add(t);
                i = j;
            }
            Token end = new Token();
            end.place = s.length();
            tokens.add(end);
        }

        Token look() {
            Token t = tokens.get(at);
            if (t.bad) {
                throw new Fault(1, t.place);
            }
            return t;
        }

        boolean isEnd() {
            return at == tokens.size() - 1;
        }

        Fault fault(int kind) {
            return new Fault(kind, look().place);
        }

        boolean sees(String word) {
            return look().text.equals(word);
        }

        void must(String word) {
            if (!sees(word)) {
                throw fault(2);
            }
            at++;
        }

        boolean may(String word) {
            if (sees(word)) {
                at++;
                return true;
            }
            return false;
        }

        int number(int least, int most) {
            if (!look().isNumber()) {
                throw fault(2);
            }
            int n = Integer.parseInt(look().text);
            if (n < least || n > most) {
                throw fault(4);
            }
            at++;
            return n;
        }

        String name() {
            if (!look().isName()) {
                throw fault(2);
            }
            return look().text;
        }
    }

    private static World readLand(String s) {
        Parser p = new Parser(s);
        World w = new World();
        Map<String, Integer> rooms = new HashMap<>();
        Map<String, Integer> doors = new HashMap<>();
        Set<String> names = new HashSet<>();
        while (!p.isEnd()) {
            if (p.sees("room")) {
                if (w.rooms.size() == 7) {
                    throw p.fault(6);
                }
                p.at++;
                Room r = new Room();
                r.name = fresh(p, names);
                rooms.put(r.name, w.rooms.size());
                p.must("floor");
                r.floor = p.number(0, 99);
                if (p.may("area")) {
                    r.area = p.number(1, 20);
                }
                if (p.may("bears")) {
                    r.bears = p.number(1, 99);
                }
                if (p.may("water")) {
                    r.water = p.number(0, 999);
                }
                w.rooms.add(r);
            } else if (p.sees("door")) {
                if (w.doors.size() == 10) {
                    throw p.fault(6);
                }
                p.at++;
                Door d = new Door();
                d.name = fresh(p, names);
                p.must("from");
                d.a = end(p, rooms);
                p.at++;
                p.must("to");
                d.b = end(p, rooms);
                if (d.a == d.b) {
                    throw p.fault(5);
                }
                p.at++;
                p.must("sill");
                d.sill = p.number(0, 99);
                if (p.may("wide")) {
                    d.wide = p.number(1, 9);
                }
                if (p.may("leaks")) {
                    d.leaks = p.number(0, 9);
                }
                doors.put(d.name, w.doors.size());
                w.doors.add(d);
            } else if (p.may("tide")) {
                int h = p.number(0, 11);
                w.tide[h] = p.number(0, 99);
            } else if (p.may("pump")) {
                int r = known(p, rooms);
                w.rooms.get(r).pump = p.number(0, 99);
            } else if (p.may("rota")) {
                int h = p.number(0, 11);
                w.doors.get(known(p, doors)).rota[h] = true;
            } else if (p.sees("errand")) {
                if (w.errands.size() == 4) {
                    throw p.fault(6);
                }
                p.at++;
                Errand e = new Errand();
                e.name = fresh(p, names);
                p.must("by");
                e.door = known(p, doors);
                p.must("from");
                e.from = p.number(0, 11);
                p.must("to");
                e.to = p.number(e.from, 11);
                w.errands.add(e);
            } else {
                throw p.fault(2);
            }
            p.must(";");
        }
        return w;
    }

    private static String fresh(Parser p, Set<String> names) {
        String name = p.name();
        if (!names.add(name)) {
            throw p.fault(3);
        }
        p.at++;
        return name;
    }

    private static int known(Parser p, Map<String, Integer> things) {
        Integer i = things.get(p.name());
        if (i == null) {
            throw p.fault(3);
        }
        p.at++;
        return i;
    }

    private static int end(Parser p, Map<String, Integer> rooms) {
        if (p.sees("sea")) {
            return -1;
        }
        Integer i = rooms.get(p.name());
        if (i == null) {
            throw p.fault(3);
        }
        return i;
    }

    private static final class NightsParser {
        final Parser p;
        final Map<String, Integer> rooms = new HashMap<>();
        final Map<String, Integer> doors = new HashMap<>();
        int steps;

        NightsParser(String s, World w) {
            p = new Parser(s);
            for (int i = 0; i < w.rooms.size(); i++) {
                rooms.put(w.rooms.get(i).name, i);
            }
            for (int i = 0; i < w.doors.size(); i++) {
                doors.put(w.doors.get(i).name, i);
            }
        }

        List<Step> body(int within) {
            List<Step> steps = new ArrayList<>();
            while (!p.isEnd() && !(within > 0 && p.sees("end"))) {
                steps.add(step(within));
            }
            if (within > 0) {
                p.must("end");
                p.must(";");
            }
            return steps;
        }

        Step step(int within) {
            Step s = new Step();
            s.word = p.look().text;
            if (!Arrays.asList("hour", "open", "shut", "bail", "any", "when", "loop", "stop").contains(s.word)) {
                throw p.fault(2);
            }
            if (++steps > 30) {
                throw p.fault(6);
            }
            boolean block = s.word.equals("when") || s.word.equals("loop");
            if (block && within == 3) {
                throw p.fault(7);
            }
            p.at++;
            if (s.word.equals("hour")) {
                s.number = p.number(1, 12);
            } else if (s.word.equals("open") || s.word.equals("shut")) {
                s.thing = known(p, doors);
            } else if (s.word.equals("bail")) {
                s.thing = known(p, rooms);
                s.number = p.number(1, 999);
            } else if (s.word.equals("loop")) {
                s.number = p.number(1, 99);
            } else if (s.word.equals("when")) {
                test(s);
            }
            p.must(";");
            if (block) {
                s.body = body(within + 1);
            }
            return s;
        }

        void test(Step s) {
            if (p.may("open")) {
                s.sign = 'o';
                s.thing = known(p, doors);
            } else if (p.may("wet")) {
                s.sign = 'w';
                s.thing = known(p, rooms);
            } else {
                p.must("depth");
                s.thing = known(p, rooms);
                if (!p.sees("<") && !p.sees(">") && !p.sees("=")) {
                    throw p.fault(2);
                }
                s.sign = p.look().text.charAt(0);
                p.at++;
                s.number = p.number(0, 9999);
            }
        }
    }

    private static final class Living {
        final World w;
        int s;
        int steps;
        int missed;
        int hours;
        int bailed;
        int drowned;
        int left;

        Living(World w, int seed) {
            this.w = w;
            s = seed;
        }

        void all(List<Step> body) {
            try {
                run(body);
            } catch (Stopped e) {
                // the NIGHTS are over
            }
        }

        void run(List<Step> body) {
            for (Step step : body) {
                if (steps == 300) {
                    left = 1;
                    throw new Stopped();
                }
                steps++;
                one(step);
            }
        }

        void one(Step step) {
            switch (step.word) {
                case "hour":
                    if (w.hour + step.number > 9999) {
                        missed++;
                    } else {
                        int before = Integer.bitCount(w.drowned());
                        w.go(step.number);
                        hours += step.number;
                        drowned += Integer.bitCount(w.drowned()) - before;
                    }
                    break;
                case "open":
                case "shut":
                    Door d = w.doors.get(step.thing);
                    if (d.held == step.word.equals("open")) {
                        missed++;
                    }
                    d.held = step.word.equals("open");
                    break;
                case "bail":
                    Room r = w.rooms.get(step.thing);
                    if (r.water < step.number) {
                        missed++;
                    } else {
                        r.water -= step.number;
                        bailed += step.number;
                    }
                    break;
                case "any":
                    if (w.doors.isEmpty()) {
                        missed++;
                    } else {
                        s = (s * 3011 + 11213) % 65536;
                        Door any = w.doors.get(s / 8 % w.doors.size());
                        any.held = !any.held;
                    }
                    break;
                case "when":
                    if (holds(step)) {
                        run(step.body);
                    }
                    break;
                case "loop":
                    for (int i = 0; i < step.number; i++) {
                        run(step.body);
                    }
                    break;
                default:
                    throw new Stopped();
            }
        }

        boolean holds(Step step) {
            switch (step.sign) {
                case 'o': return w.isOpen(w.doors.get(step.thing));
                case 'w': return w.rooms.get(step.thing).depth() > 0;
                case '<': return w.rooms.get(step.thing).depth() < step.number;
                case '>': return w.rooms.get(step.thing).depth() > step.number;
                default: return w.rooms.get(step.thing).depth() == step.number;
            }
        }
    }

    /** Answers as the document tells them; a refusal is thrown by its STATUS. */
    private static final class No extends RuntimeException {
        final int status;

        No(int status) {
            super(null, null, false, false);
            this.status = status;
        }
    }

    private static final class Model {
        World w = new World();
        List<Step> nights;
        int nightSteps;
        List<Object[]> marks = new ArrayList<>();
        long[][] trays = new long[4][];
        int[] sorts = new int[4];
        StringBuilder tape = new StringBuilder();
        int status;
        long top;
        long bottom = 1;
        int[] fault = {-1, -1};
        Living lived;

        static void need(boolean is, int status) {
            if (!is) {
                throw new No(status);
            }
        }

        static void in(long n, long least, long most) {
            need(n >= least && n <= most, 1);
        }

        void room(int r) {
            in(r, 0, w.rooms.size() - 1);
        }

        void door(int d) {
            in(d, 0, w.doors.size() - 1);
        }

        void tray(int t) {
            in(t, 0, 3);
        }

        long cut(int tray, long v) {
            return new long[] {(byte) v, (short) v, (int) v, v}[sorts[tray]];
        }

        void fraction(long a, long b) {
            long d = java.math.BigInteger.valueOf(a).gcd(java.math.BigInteger.valueOf(b)).longValue();
            top = a / d;
            bottom = b / d;
        }

        static int set(boolean[] is) {
            int n = 0;
            for (int i = 0; i < is.length; i++) {
                n += is[i] ? 1 << i : 0;
            }
            return n;
        }

        long call(String name, int[] a, long v) {
            switch (name) {
                case "tray":
                    tray(a[0]);
                    in(a[1], 0, 3);
                    in(a[2], 0, 60);
                    trays[a[0]] = new long[a[2]];
                    sorts[a[0]] = a[1];
                    return 1;
                case "write":
                    tray(a[0]);
                    need(trays[a[0]] != null, 2);
                    need(a[1] >= 0 && a[1] < trays[a[0]].length, 3);
                    trays[a[0]][a[1]] = cut(a[0], v);
                    return 1;
                case "read":
                    tray(a[0]);
                    need(trays[a[0]] != null, 2);
                    need(a[1] >= 0 && a[1] < trays[a[0]].length, 3);
                    return trays[a[0]][a[1]];
                case "pour":
                    tray(a[0]);
                    tray(a[2]);
                    need(a[1] >= 0 && a[3] >= 0 && a[4] >= 0, 1);
                    need(trays[a[0]] != null && trays[a[2]] != null, 2);
                    need(sorts[a[0]] == sorts[a[2]], 8);
                    need((long) a[1] + a[4] <= trays[a[0]].length, 3);
                    need((long) a[3] + a[4] <= trays[a[2]].length, 3);
                    long[] old = trays[a[0]].clone();
                    for (int i = 0; i < a[4]; i++) {
                        trays[a[2]][a[3] + i] = old[a[1] + i];
                    }
                    return 1;
                case "land":
                    in(a[0], 0, tape.length());
                    try {
                        w = readLand(cutTape(a[0]));
                        nights = null;
                        return w.doors.size();
                    } catch (Fault f) {
                        fault = new int[] {f.kind, f.place};
                        throw new No(9);
                    }
                case "nights":
                    in(a[0], 0, Math.min(300, tape.length()));
                    try {
                        NightsParser p = new NightsParser(cutTape(a[0]), w);
                        nights = p.body(0);
                        nightSteps = p.steps;
                        return nightSteps;
                    } catch (Fault f) {
                        fault = new int[] {f.kind, f.place};
                        throw new No(9);
                    }
                default:
                    return moreCalls(name, a);
            }
        }

        String cutTape(int n) {
            String s = tape.substring(0, n);
            tape.setLength(0);
            fault = new int[] {0, -1};
            return s;
        }

        long moreCalls(String name, int[] a) {
            switch (name) {
                case "told": {
                    in(a[0], 0, 9);
                    boolean[] open = new boolean[w.doors.size()];
                    boolean[] held = new boolean[open.length];
                    boolean[] walled = new boolean[open.length];
                    for (int i = 0; i < open.length; i++) {
                        open[i] = w.isOpen(w.doors.get(i));
                        held[i] = w.doors.get(i).held;
                        walled[i] = w.doors.get(i).walled;
                    }
                    return new int[] {w.rooms.size(), w.doors.size(), w.errands.size(), w.hour, w.water(), w.wet(),
                        w.drowned(), set(open), set(held), set(walled)}[a[0]];
                }
                case "room": {
                    room(a[0]);
                    in(a[1], 0, 7);
                    Room r = w.rooms.get(a[0]);
                    return new int[] {r.floor, r.area, r.bears, r.pump, r.water, r.depth(), w.surface(a[0]),
                        r.mark}[a[1]];
                }
                case "door": {
                    door(a[0]);
                    in(a[1], 0, 5);
                    Door d = w.doors.get(a[0]);
                    return new int[] {d.a, d.b, d.sill, d.wide, d.leaks, set(d.rota)}[a[1]];
                }
                case "errand": {
                    in(a[0], 0, w.errands.size() - 1);
                    in(a[1], 0, 2);
                    Errand e = w.errands.get(a[0]);
                    return new int[] {e.door, e.from, e.to}[a[1]];
                }
                case "tide":
                    in(a[0], 0, 11);
                    return w.tide[a[0]];
                case "drive":
                    door(a[0]);
                    return w.drive(w.doors.get(a[0]));
                case "flow":
                    door(a[0]);
                    return w.flow(w.doors.get(a[0]));
                case "flowOpen": {
                    door(a[0]);
                    Door d = w.doors.get(a[0]);
                    return w.signed(d, w.drive(d) * d.wide);
                }
                case "deepest": {
                    int best = -1;
                    for (int i = w.rooms.size() - 1; i >= 0; i--) {
                        if (w.rooms.get(i).depth() > 0
                                && (best < 0 || w.rooms.get(i).depth() >= w.rooms.get(best).depth())) {
                            best = i;
                        }
                    }
                    need(best >= 0, 6);
                    return best;
                }
                case "busiest": {
                    int best = -1;
                    for (int i = w.doors.size() - 1; i >= 0; i--) {
                        int f = Math.abs(w.flow(w.doors.get(i)));
                        if (f > 0 && (best < 0 || f >= Math.abs(w.flow(w.doors.get(best))))) {
                            best = i;
                        }
                    }
                    need(best >= 0, 6);
                    return best;
                }
                case "spare": {
                    room(a[0]);
                    Room r = w.rooms.get(a[0]).copy();
                    int n = 0;
                    while (r.depth() <= r.bears) {
                        r.water++;
                        n++;
                    }
                    return Math.max(0, n - 1);
                }
                case "low": {
                    int best = 0;
                    for (int h = 11; h >= 0; h--) {
                        best = w.tide[h] <= w.tide[best] ? h : best;
                    }
                    return best;
                }
                case "high": {
                    door(a[0]);
                    boolean[] is = new boolean[12];
                    for (int h = 0; h < 12; h++) {
                        is[h] = w.tide[h] > w.doors.get(a[0]).sill;
                    }
                    return set(is);
                }
                case "linked": {
                    room(a[0]);
                    boolean[] is = new boolean[w.rooms.size()];
                    for (int i = 0; i < is.length; i++) {
                        is[i] = w.leads(a[0], i, 0, false);
                    }
                    return set(is);
                }
                default:
                    return doneCalls(name, a);
            }
        }

        long doneCalls(String name, int[] a) {
            switch (name) {
                case "hour": {
                    in(a[0], 1, 99);
                    need(w.hour + a[0] <= 9999, 4);
                    int before = w.drowned();
                    w.go(a[0]);
                    return w.drowned() - before;
                }
                case "hold": {
                    door(a[0]);
                    need(w.doors.get(a[0]).held != (a[1] == 1), 7);
                    w.doors.get(a[0]).held = a[1] == 1;
                    return 1;
                }
                case "wall": {
                    door(a[0]);
                    need(w.doors.get(a[0]).walled != (a[1] == 1), 7);
                    w.doors.get(a[0]).walled = a[1] == 1;
                    return 1;
                }
                case "bail": {
                    room(a[0]);
                    in(a[1], 1, 999);
                    need(w.rooms.get(a[0]).water >= a[1], 7);
                    return w.rooms.get(a[0]).water -= a[1];
                }
                case "wipe": {
                    int n = 0;
                    for (Room r : w.rooms) {
                        n += r.mark > 0 ? 1 : 0;
                        r.mark = 0;
                    }
                    return n;
                }
                case "rota": {
                    in(a[0], 0, 11);
                    door(a[1]);
                    need(w.doors.get(a[1]).rota[a[0]] != (a[2] == 1), 7);
                    w.doors.get(a[1]).rota[a[0]] = a[2] == 1;
                    return 1;
                }
                case "moon":
                    in(a[0], 0, 11);
                    in(a[1], 0, 99);
                    w.tide[a[0]] = a[1];
                    return 1;
                case "pump":
                    room(a[0]);
                    in(a[1], 0, 99);
                    w.rooms.get(a[0]).pump = a[1];
                    return 1;
                case "raise": {
                    door(a[0]);
                    in(a[1], -99, 99);
                    Door d = w.doors.get(a[0]);
                    need(d.sill + a[1] >= 0 && d.sill + a[1] <= 99, 7);
                    return d.sill += a[1];
                }
                case "build": {
                    room(a[0]);
                    need(w.rooms.get(a[0]).drowned, 7);
                    w.rooms.get(a[0]).drowned = false;
                    return Integer.bitCount(w.drowned());
                }
                case "mark":
                    need(marks.size() < 3, 4);
                    marks.add(new Object[] {w.copy(), nights, nightSteps});
                    return marks.size();
                case "undo": {
                    need(!marks.isEmpty(), 6);
                    Object[] kept = marks.remove(marks.size() - 1);
                    w = (World) kept[0];
                    @SuppressWarnings("unchecked")
                    List<Step> steps = (List<Step>) kept[1];
                    nights = steps;
                    nightSteps = (Integer) kept[2];
                    return marks.size();
                }
                case "live": {
                    in(a[0], 0, 9999);
                    need(nights != null, 6);
                    lived = new Living(w, a[0]);
                    lived.all(nights);
                    return lived.steps;
                }
                case "lived":
                    in(a[0], 0, 4);
                    need(lived != null, 6);
                    return new int[] {lived.missed, lived.hours, lived.bailed, lived.drowned, lived.left}[a[0]];
                case "mean": {
                    in(a[0], 0, 9999);
                    in(a[1], 1, 20);
                    in(a[0] + a[1] - 1, 0, 9999);
                    need(nights != null, 6);
                    long sum = 0;
                    for (int i = 0; i < a[1]; i++) {
                        World dream = w.copy();
                        new Living(dream, a[0] + i).all(nights);
                        sum += dream.water();
                    }
                    fraction(sum, a[1]);
                    return 1;
                }
                default:
                    return wouldBeCalls(name, a);
            }
        }

        World held(int door) {
            World x = w.copy();
            x.doors.get(door).held = true;
            return x;
        }

        int firstHour(java.util.function.Predicate<World> is) {
            World x = w.copy();
            for (int h = 0; h <= 99; h++) {
                if (is.test(x)) {
                    return h;
                }
                x.go(1);
            }
            throw new No(6);
        }

        /** The first of so many by the least number. */
        static int least(int many, java.util.function.IntToLongFunction by) {
            int best = 0;
            for (int i = 1; i < many; i++) {
                best = by.applyAsLong(i) < by.applyAsLong(best) ? i : best;
            }
            return best;
        }

        long wouldBeCalls(String name, int[] a) {
            switch (name) {
                case "later":
                    room(a[0]);
                    in(a[1], 0, 99);
                    return w.copy().go(a[1]).rooms.get(a[0]).water;
                case "allLater":
                    in(a[0], 0, 99);
                    return w.copy().go(a[0]).water();
                case "wetIn":
                    room(a[0]);
                    return firstHour(x -> x.rooms.get(a[0]).depth() > 0);
                case "drownsIn":
                    room(a[0]);
                    return firstHour(x -> x.rooms.get(a[0]).drowned);
                case "dryIn":
                    return firstHour(x -> x.wet() == 0);
                case "fails":
                    door(a[0]);
                    return held(a[0]).go(12).drowned();
                case "worst":
                    need(!w.doors.isEmpty(), 6);
                    return least(w.doors.size(), d -> -held(d).go(12).water());
                case "sillFor": {
                    door(a[0]);
                    for (int r = 0; r <= 99; r++) {
                        World x = held(a[0]);
                        x.doors.get(a[0]).sill += r;
                        if (x.doors.get(a[0]).sill <= 99 && x.go(12).drowned() == w.drowned()) {
                            return r;
                        }
                    }
                    throw new No(6);
                }
                case "through":
                    door(a[0]);
                    in(a[1], 0, 99);
                    return w.copy().go(a[1]).gone[a[0]];
                case "greatest": {
                    room(a[0]);
                    in(a[1], 0, 99);
                    int most = 0;
                    for (int h = 0; h <= a[1]; h++) {
                        most = Math.max(most, w.copy().go(h).rooms.get(a[0]).depth());
                    }
                    return most;
                }
                case "firstDrowned": {
                    int at = firstHour(x -> (x.drowned() & ~w.drowned()) != 0);
                    int more = w.copy().go(at).drowned() & ~w.drowned();
                    int r = 0;
                    while ((more >> r) % 2 == 0) {
                        r++;
                    }
                    return r;
                }
                case "bestHour":
                    door(a[0]);
                    return least(12, h -> {
                        World x = w.copy();
                        for (int i = 0; i < 12; i++) {
                            x.doors.get(a[0]).held = x.hour % 12 == h;
                            x.go(1);
                        }
                        return x.water();
                    });
                case "pumpFor": {
                    room(a[0]);
                    for (int p = 0; p <= 99; p++) {
                        World x = w.copy();
                        x.rooms.get(a[0]).pump = p;
                        if (!x.go(24).rooms.get(a[0]).drowned) {
                            return p;
                        }
                    }
                    throw new No(6);
                }
                case "pumpAt":
                    in(a[0], 1, 99);
                    need(!w.rooms.isEmpty(), 6);
                    return least(w.rooms.size(), r -> {
                        World x = w.copy();
                        x.rooms.get(r).pump = Math.min(99, x.rooms.get(r).pump + a[0]);
                        return x.go(12).water();
                    });
                default:
                    return wouldBeCallsToo(name, a);
            }
        }

        long walled(int set) {
            World x = w.copy();
            for (int i = 0; i < x.doors.size(); i++) {
                x.doors.get(i).walled |= (set >> i) % 2 == 1;
            }
            return x.go(12).water();
        }

        int siege(int height) {
            World x = w.copy();
            Arrays.fill(x.tide, height);
            return x.go(12).drowned();
        }

        long wouldBeCallsToo(String name, int[] a) {
            switch (name) {
                case "twoWalls": {
                    int best = -1;
                    long least = 0;
                    for (int two = 0; two < 100; two++) {
                        int i = two / 10;
                        int j = two % 10;
                        if (i < j && j < w.doors.size() && !w.doors.get(i).walled && !w.doors.get(j).walled) {
                            long water = walled((1 << i) + (1 << j));
                            if (best < 0 || water < least) {
                                best = two;
                                least = water;
                            }
                        }
                    }
                    need(best >= 0, 6);
                    return best;
                }
                case "gain":
                    door(a[0]);
                    return w.copy().go(12).water() - walled(1 << a[0]);
                case "bailFor": {
                    room(a[0]);
                    in(a[1], 1, 24);
                    for (int n = 0; n <= w.rooms.get(a[0]).water; n++) {
                        World x = w.copy();
                        x.rooms.get(a[0]).water -= n;
                        if (x.go(a[1]).rooms.get(a[0]).depth() == 0) {
                            return n;
                        }
                    }
                    throw new No(6);
                }
                case "siege":
                    in(a[0], 0, 99);
                    return siege(a[0]);
                case "borne": {
                    for (int h = 99; h >= 0; h--) {
                        if (siege(h) == w.drowned()) {
                            return h;
                        }
                    }
                    throw new No(6);
                }
                default:
                    return planCalls(name, a);
            }
        }

        int keepSet(int room) {
            int best = -1;
            for (int set = 0; set < 1 << w.doors.size(); set++) {
                boolean any = false;
                for (int i = 0; i < w.doors.size(); i++) {
                    any |= (set >> i) % 2 == 1 && w.doors.get(i).walled;
                }
                if (!any && !w.leads(-1, room, set, true)
                        && (best < 0 || Integer.bitCount(set) < Integer.bitCount(best))) {
                    best = set;
                }
            }
            return best;
        }

        /** ROOMS drowned, WATER, then the HOURS. */
        int[] plan() {
            int[] best = null;
            int[] hours = new int[4];
            int all = 12 * 12 * 12 * 12;
            for (int n = 0; n < all; n++) {
                hours[0] = n / 1728;
                hours[1] = n / 144 % 12;
                hours[2] = n / 12 % 12;
                hours[3] = n % 12;
                boolean can = true;
                for (int e = 0; e < 4; e++) {
                    can &= e < w.errands.size()
                            ? hours[e] >= w.errands.get(e).from && hours[e] <= w.errands.get(e).to : hours[e] == 0;
                }
                if (can) {
                    World x = w.copy();
                    for (Door d : x.doors) {
                        d.rota = new boolean[12];
                    }
                    for (int e = 0; e < w.errands.size(); e++) {
                        x.doors.get(w.errands.get(e).door).rota[hours[e]] = true;
                    }
                    x.go(12);
                    int[] is = {Integer.bitCount(x.drowned()), x.water(), hours[0], hours[1], hours[2], hours[3]};
                    best = best == null || Arrays.compare(is, best) < 0 ? is : best;
                }
            }
            return best;
        }

        int saved(int hours) {
            World x = w.copy();
            for (int i = 0; i < 12; i++) {
                x.hour((hours >> x.hour % 12) % 2 == 1);
            }
            return x.water();
        }

        int saveSet(int many) {
            int best = -1;
            int least = 0;
            for (int set = 0; set < 4096; set++) {
                if (Integer.bitCount(set) == many) {
                    int water = saved(set);
                    if (best < 0 || water < least) {
                        best = set;
                        least = water;
                    }
                }
            }
            return best;
        }

        long damage(int set) {
            return w.copy().justOpen(set).go(12).water();
        }

        /** All orders, one after the other. */
        long[] shares(int door, int left, int ahead) {
            if (left == 0) {
                return new long[] {0, 1};
            }
            long[] sum = new long[2];
            for (int d = 0; d < 10; d++) {
                if ((left >> d) % 2 == 1) {
                    long[] rest = shares(door, left - (1 << d), ahead + (1 << d));
                    sum[0] += rest[0];
                    sum[1] += rest[1];
                    if (d == door) {
                        sum[0] += rest[1] * (damage(ahead + (1 << d)) - damage(ahead));
                    }
                }
            }
            return sum;
        }

        int[] printOf(int door) {
            World x = w.copy().justOpen(1 << door);
            for (Room r : x.rooms) {
                r.mark = 0;
            }
            x.go(12);
            int[] marks = new int[x.rooms.size()];
            for (int i = 0; i < marks.length; i++) {
                marks[i] = x.rooms.get(i).mark;
            }
            return marks;
        }

        int unlike(int room) {
            Set<Integer> marks = new HashSet<>();
            for (int d = 0; d < w.doors.size(); d++) {
                if (!w.doors.get(d).walled) {
                    marks.add(printOf(d)[room]);
                }
            }
            return marks.size();
        }

        long planCalls(String name, int[] a) {
            switch (name) {
                case "keep":
                    room(a[0]);
                    return Integer.bitCount(keepSet(a[0]));
                case "keepSet":
                    room(a[0]);
                    return keepSet(a[0]);
                case "plan":
                    in(a[0], 0, 1);
                    need(!w.errands.isEmpty(), 6);
                    return plan()[a[0]];
                case "planned":
                    in(a[0], 0, w.errands.size() - 1);
                    return plan()[2 + a[0]];
                case "save":
                    in(a[0], 0, 12);
                    return saved(saveSet(a[0]));
                case "saveSet":
                    in(a[0], 0, 12);
                    return saveSet(a[0]);
                case "damage":
                    in(a[0], 0, (1 << w.doors.size()) - 1);
                    return damage(a[0]);
                case "guilt": {
                    in(a[1], 1, (1 << w.doors.size()) - 1);
                    in(Integer.bitCount(a[1]), 1, 5);
                    door(a[0]);
                    in((a[1] >> a[0]) % 2, 1, 1);
                    long[] sum = shares(a[0], a[1], 0);
                    fraction(sum[0], sum[1]);
                    return 1;
                }
                case "print": {
                    door(a[0]);
                    tray(a[1]);
                    need(trays[a[1]] != null, 2);
                    need(trays[a[1]].length >= w.rooms.size(), 3);
                    int[] marks = printOf(a[0]);
                    for (int i = 0; i < marks.length; i++) {
                        trays[a[1]][i] = cut(a[1], marks[i]);
                    }
                    return marks.length;
                }
                case "suspects": {
                    tray(a[0]);
                    need(trays[a[0]] != null, 2);
                    need(trays[a[0]].length >= w.rooms.size(), 3);
                    boolean[] is = new boolean[w.doors.size()];
                    for (int d = 0; d < is.length; d++) {
                        is[d] = !w.doors.get(d).walled;
                        for (int r = 0; r < w.rooms.size(); r++) {
                            is[d] &= trays[a[0]][r] == printOf(d)[r];
                        }
                    }
                    return set(is);
                }
                case "telling":
                    need(!w.rooms.isEmpty(), 6);
                    return least(w.rooms.size(), r -> -unlike(r));
                case "prints":
                    room(a[0]);
                    return unlike(a[0]);
                default:
                    throw new IllegalStateException(name);
            }
        }

        long answer(String name, int[] a, long v) {
            try {
                long answer = call(name, a, v);
                status = 0;
                return answer;
            } catch (No no) {
                status = no.status;
                return BOOLEANS.contains(name) ? 0 : -1;
            }
        }
    }

    private static final List<String> BOOLEANS = Arrays.asList("tray", "write", "pour", "hold", "wall", "rota", "moon",
            "pump", "guilt", "mean");

    // ------------------------------------------------------------------ the calls

    private static long is(boolean b) {
        return b ? 1 : 0;
    }

    private static long ask(DryDoors x, String name, int[] a, long v) {
        switch (name) {
            case "tray": return is(x.tray(a[0], a[1], a[2]));
            case "write": return is(x.write(a[0], a[1], v));
            case "read": return x.read(a[0], a[1]);
            case "pour": return is(x.pour(a[0], a[1], a[2], a[3], a[4]));
            case "land": return x.land(a[0]);
            case "nights": return x.nights(a[0]);
            case "told": return x.told(a[0]);
            case "room": return x.room(a[0], a[1]);
            case "door": return x.door(a[0], a[1]);
            case "errand": return x.errand(a[0], a[1]);
            case "tide": return x.tide(a[0]);
            case "drive": return x.drive(a[0]);
            case "flow": return x.flow(a[0]);
            case "flowOpen": return x.flowOpen(a[0]);
            case "deepest": return x.deepest();
            case "busiest": return x.busiest();
            case "spare": return x.spare(a[0]);
            case "low": return x.low();
            case "high": return x.high(a[0]);
            case "linked": return x.linked(a[0]);
            case "hour": return x.hour(a[0]);
            case "hold": return is(x.hold(a[0], a[1] == 1));
            case "wall": return is(x.wall(a[0], a[1] == 1));
            case "bail": return x.bail(a[0], a[1]);
            case "wipe": return x.wipe();
            case "rota": return is(x.rota(a[0], a[1], a[2] == 1));
            case "moon": return is(x.moon(a[0], a[1]));
            case "pump": return is(x.pump(a[0], a[1]));
            case "raise": return x.raise(a[0], a[1]);
            case "build": return x.build(a[0]);
            default: return askMore(x, name, a);
        }
    }

    private static long askMore(DryDoors x, String name, int[] a) {
        switch (name) {
            case "later": return x.later(a[0], a[1]);
            case "allLater": return x.allLater(a[0]);
            case "wetIn": return x.wetIn(a[0]);
            case "drownsIn": return x.drownsIn(a[0]);
            case "dryIn": return x.dryIn();
            case "fails": return x.fails(a[0]);
            case "worst": return x.worst();
            case "sillFor": return x.sillFor(a[0]);
            case "through": return x.through(a[0], a[1]);
            case "greatest": return x.greatest(a[0], a[1]);
            case "firstDrowned": return x.firstDrowned();
            case "bestHour": return x.bestHour(a[0]);
            case "pumpFor": return x.pumpFor(a[0]);
            case "pumpAt": return x.pumpAt(a[0]);
            case "twoWalls": return x.twoWalls();
            case "gain": return x.gain(a[0]);
            case "bailFor": return x.bailFor(a[0], a[1]);
            case "siege": return x.siege(a[0]);
            case "borne": return x.borne();
            case "keep": return x.keep(a[0]);
            case "keepSet": return x.keepSet(a[0]);
            case "plan": return x.plan(a[0]);
            case "planned": return x.planned(a[0]);
            case "save": return x.save(a[0]);
            case "saveSet": return x.saveSet(a[0]);
            case "damage": return x.damage(a[0]);
            case "guilt": return is(x.guilt(a[0], a[1]));
            case "print": return x.print(a[0], a[1]);
            case "suspects": return x.suspects(a[0]);
            case "telling": return x.telling();
            case "prints": return x.prints(a[0]);
            case "live": return x.live(a[0]);
            case "lived": return x.lived(a[0]);
            case "mean": return is(x.mean(a[0], a[1]));
            case "mark": return x.mark();
            default: return x.undo();
        }
    }

    /** Of each call what its arguments are: a kind each, as drawn below. */
    private static final String[] CALLS = {"tray t 3 60", "write t p", "read t p", "pour t p t p p", "told 9",
        "room r 7", "door d 5", "errand e 2", "tide h", "drive d", "flow d", "flowOpen d", "deepest", "busiest",
        "spare r", "low", "high d", "linked r", "hour H", "hold d b", "wall d b", "bail r n", "wipe", "rota h d b",
        "moon h 99", "pump r 99", "raise d s", "build r", "later r 99", "allLater 99", "wetIn r", "drownsIn r",
        "dryIn", "fails d", "worst", "sillFor d", "through d 99", "greatest r 99", "firstDrowned", "bestHour d",
        "pumpFor r", "pumpAt 99", "twoWalls", "gain d", "bailFor r 24", "siege 99", "borne", "keep r", "keepSet r",
        "plan 1", "planned e", "save 12", "saveSet 12", "damage D", "guilt d D", "print d t", "suspects t", "telling",
        "prints r", "live S", "lived 4", "mean S 20", "mark", "undo", "hour H", "hold d b", "wall d b", "live S"};

    private static int draw(Random random, String kind, Model m) {
        if (random.nextInt(40) == 0) {
            return new int[] {-1, 100, 1000, Integer.MIN_VALUE, Integer.MAX_VALUE}[random.nextInt(5)];
        }
        switch (kind) {
            case "t": return random.nextInt(4);
            case "p": return random.nextInt(random.nextInt(3) == 0 ? 61 : 8);
            case "r": return random.nextInt(Math.max(1, m.w.rooms.size()));
            case "d": return random.nextInt(Math.max(1, m.w.doors.size()));
            case "e": return random.nextInt(Math.max(1, m.w.errands.size()));
            case "h": return random.nextInt(12);
            case "H": return random.nextInt(60) == 0 ? 99 : 1 + random.nextInt(4);
            case "b": return random.nextInt(2);
            case "n": return 1 + random.nextInt(9);
            case "s": return random.nextInt(13) - 6;
            case "S": return random.nextInt(10000);
            case "D": return random.nextInt(1 << m.w.doors.size());
            default: return random.nextInt(Integer.parseInt(kind) + 2);
        }
    }

    // ------------------------------------------------------------------ texts

    private static String name(Random random) {
        return new String[] {"a", "b", "c", "dd", "e", "f", "gate", "h", "i", "jjjjjjjj", "k", "l", "m", "n", "o", "p",
            "q", "r", "s", "t", "u"}[random.nextInt(21)];
    }

    private static String pick(Random random, List<String> names) {
        return names.isEmpty() || random.nextInt(150) == 0 ? name(random) : names.get(random.nextInt(names.size()));
    }

    private static String landText(Random random) {
        List<String> parts = new ArrayList<>();
        List<String> rooms = new ArrayList<>();
        List<String> doors = new ArrayList<>();
        List<String> free = new ArrayList<>(Arrays.asList("a", "b", "c", "dd", "e", "f", "gate", "h", "i", "jjjjjjjj",
                "k", "l", "m", "n", "o", "p", "q", "r", "s", "t", "u"));
        java.util.Collections.shuffle(free, random);
        int manyRooms = random.nextInt(random.nextInt(20) == 0 ? 9 : 8);
        for (int i = 0; i < manyRooms; i++) {
            String n = free.remove(0);
            rooms.add(n);
            parts.add("room " + n + " floor " + random.nextInt(random.nextBoolean() ? 4 : 15)
                    + (random.nextInt(2) == 0 ? " area " + (1 + random.nextInt(random.nextBoolean() ? 3 : 20)) : "")
                    + (random.nextInt(2) == 0 ? " bears " + (1 + random.nextInt(12)) : "")
                    + (random.nextInt(3) == 0 ? " water " + random.nextInt(random.nextInt(4) == 0 ? 1000 : 30) : ""));
        }
        int manyDoors = rooms.isEmpty() ? 0 : random.nextInt(random.nextInt(20) == 0 ? 12 : 9);
        for (int i = 0; i < manyDoors; i++) {
            String n = free.remove(0);
            String one = random.nextInt(3) == 0 ? "sea" : pick(random, rooms);
            String other = one.equals("sea") || random.nextInt(2) == 0 ? pick(random, rooms) : "sea";
            if (one.equals(other) && random.nextInt(10) != 0) {
                other = "sea";
            }
            doors.add(n);
            parts.add("door " + n + " from " + one + " to " + other + " sill " + random.nextInt(12)
                    + (random.nextInt(2) == 0 ? " wide " + (1 + random.nextInt(4)) : "")
                    + (random.nextInt(3) == 0 ? " leaks " + random.nextInt(4) : ""));
        }
        for (int i = random.nextInt(6); i > 0; i--) {
            parts.add("tide " + random.nextInt(12) + " " + random.nextInt(25));
        }
        for (int i = random.nextInt(4); i > 0 && !rooms.isEmpty(); i--) {
            parts.add("pump " + pick(random, rooms) + " " + random.nextInt(9));
        }
        for (int i = random.nextInt(5); i > 0 && !doors.isEmpty(); i--) {
            parts.add("rota " + random.nextInt(12) + " " + pick(random, doors));
        }
        for (int i = random.nextInt(random.nextInt(10) == 0 ? 6 : 4); i > 0 && !doors.isEmpty(); i--) {
            int from = random.nextInt(12);
            parts.add("errand " + (free.isEmpty() ? "zz" : free.remove(0)) + " by " + pick(random, doors) + " from "
                    + from + " to " + Math.min(11, from + random.nextInt(4)));
        }
        return join(random, parts, 900);
    }

    private static String join(Random random, List<String> parts, int most) {
        StringBuilder text = new StringBuilder();
        for (String part : parts) {
            String more = part + (random.nextInt(4) == 0 ? " ;\n" : ";") + (random.nextInt(9) == 0 ? " " : "");
            if (text.length() + more.length() <= most) {
                text.append(more);
            }
        }
        return harm(random, text.toString(), most);
    }

    /** One text in three has something wrong. */
    private static String harm(Random random, String text, int most) {
        if (text.isEmpty() || random.nextInt(3) != 0) {
            return text;
        }
        String[] tokens = text.split("(?<=[ ;\n])|(?=[ ;\n])");
        int at = random.nextInt(tokens.length);
        String[] bits = {"", "0", "12345", "9999", "100", "abcdefghi", "room", "sea", "end ", ";", "<", "#", "A", "a",
            "from", " when", "loop", "12", "\t", "\u00e9"};
        tokens[at] = random.nextInt(3) == 0 ? tokens[at] + bits[random.nextInt(bits.length)]
                : bits[random.nextInt(bits.length)];
        String harmed = String.join("", tokens);
        harmed = random.nextInt(5) == 0 ? harmed.substring(0, random.nextInt(harmed.length() + 1)) : harmed;
        return harmed.length() > most ? harmed.substring(0, most) : harmed;
    }

    private static void steps(Random random, Model m, int depth, List<String> parts) {
        List<String> rooms = new ArrayList<>();
        List<String> doors = new ArrayList<>();
        m.w.rooms.forEach(r -> rooms.add(r.name));
        m.w.doors.forEach(d -> doors.add(d.name));
        for (int i = random.nextInt(depth == 0 ? 9 : 4); i > 0; i--) {
            int kind = random.nextInt(depth < 3 || random.nextInt(20) == 0 ? 14 : 9);
            String room = pick(random, rooms);
            String door = pick(random, doors);
            if (kind < 3) {
                parts.add("hour " + (1 + random.nextInt(4)));
            } else if (kind == 3) {
                parts.add("open " + door);
            } else if (kind == 4) {
                parts.add("shut " + door);
            } else if (kind == 5) {
                parts.add("bail " + room + " " + (1 + random.nextInt(6)));
            } else if (kind < 8) {
                parts.add("any");
            } else if (kind == 8) {
                parts.add(random.nextInt(6) == 0 ? "stop" : "hour 12");
            } else {
                String test = random.nextInt(3) == 0 ? "wet " + room : random.nextInt(2) == 0 ? "open " + door
                        : "depth " + room + " " + "<>=".charAt(random.nextInt(3)) + " " + random.nextInt(8);
                parts.add(kind < 11 ? "when " + test : "loop " + (1 + random.nextInt(random.nextInt(3) == 0 ? 99 : 6)));
                steps(random, m, depth + 1, parts);
                parts.add("end");
            }
        }
    }

    private static String nightsText(Random random, Model m) {
        List<String> parts = new ArrayList<>();
        steps(random, m, 0, parts);
        return join(random, parts, 300);
    }

    // ------------------------------------------------------------------ the runs

    private static void feedBoth(DryDoors x, Model m, String text) {
        for (int i = 0; i < text.length(); i += 20) {
            int[] fours = new int[5];
            for (int j = 0; j < 20; j++) {
                fours[j / 4] = fours[j / 4] << 8 | (i + j < text.length() ? text.charAt(i + j) & 255 : 0);
            }
            int due = m.tape.length() + 20 > 900 ? -1 : m.tape.length() + 20;
            Kit.due("feed", x.feed(fours[0], fours[1], fours[2], fours[3], fours[4]), due);
            for (int j = 0; j < 20 && due > 0; j++) {
                m.tape.append(i + j < text.length() ? text.charAt(i + j) : 0);
            }
        }
    }

    private static void both(String run, DryDoors x, Model m, String name, int[] a, long v) {
        String call = run + " " + name + Arrays.toString(a);
        long due = m.answer(name, a, v);
        Kit.due(call, ask(x, name, a, v), due);
        Kit.due(call + ": status", x.status(), m.status);
        Kit.due(call + ": top", x.top(), m.top);
        Kit.due(call + ": bottom", x.bottom(), m.bottom);
        if (name.equals("land") || name.equals("nights")) {
            Kit.due(call + ": fault", x.fault(0), m.fault[0]);
            Kit.due(call + ": fault's place", x.fault(1), m.fault[1]);
        }
    }

    private static void all(String run, DryDoors x, Model m) {
        for (int what = 0; what < 10; what++) {
            both(run, x, m, "told", new int[] {what, 0, 0, 0, 0}, 0);
        }
        for (int r = 0; r < m.w.rooms.size(); r++) {
            for (int what = 0; what < 8; what++) {
                both(run, x, m, "room", new int[] {r, what, 0, 0, 0}, 0);
            }
        }
        for (int d = 0; d < m.w.doors.size(); d++) {
            for (int what = 0; what < 6; what++) {
                both(run, x, m, "door", new int[] {d, what, 0, 0, 0}, 0);
            }
        }
    }

    private static void run(int seed) {
        Random random = new Random(seed);
        DryDoors x = new DryDoors();
        Model m = new Model();
        String run = "run " + seed;
        for (int i = 0; i < 160; i++) {
            int kind = random.nextInt(40);
            if (i == 0 || kind == 0) {
                String text = landText(random);
                feedBoth(x, m, text);
                both(run + "." + i + " " + text, x, m, "land", new int[] {random.nextInt(30) == 0
                        ? random.nextInt(1000) - 20 : text.length()}, 0);
            } else if (kind < 3) {
                String text = nightsText(random, m);
                feedBoth(x, m, text);
                both(run + "." + i + " " + text, x, m, "nights", new int[] {random.nextInt(30) == 0
                        ? random.nextInt(400) - 20 : text.length()}, 0);
            } else {
                String[] call = CALLS[random.nextInt(CALLS.length)].split(" ");
                int[] a = new int[5];
                for (int j = 1; j < call.length; j++) {
                    a[j - 1] = draw(random, call[j], m);
                }
                both(run + "." + i, x, m, call[0], a, random.nextInt(4) == 0 ? random.nextLong() : random.nextInt(12));
            }
        }
        all(run, x, m);
    }

    public static void main(String[] args) {
        int from = args.length > 2 ? Integer.parseInt(args[1]) : 0;
        int to = args.length > 2 ? Integer.parseInt(args[2]) : 1000;
        for (int seed = from; seed < to; seed++) {
            run(seed);
        }
        Kit.end("against the model");
    }
}
