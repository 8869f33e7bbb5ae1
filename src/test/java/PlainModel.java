import java.util.ArrayDeque;
import java.util.ArrayList;
import java.util.Comparator;
import java.util.LinkedHashMap;
import java.util.List;
import java.util.Map;
import java.util.TreeSet;
import java.util.function.Predicate;
import java.util.regex.Matcher;
import java.util.regex.Pattern;

/** The document's words in the plainest form, with lists, maps and whole copies; for comparison alone. */
final class PlainModel {
    private static final String EFFECT = "([hm][0-9]{1,2}|k[0-5][1-9][0-3][1-9])";
    private static final Pattern TEXT =
        Pattern.compile("[sdcl][0-5]:" + EFFECT + "(," + EFFECT + "){0,3}(\\$[0-2][1-9])?");

    private static final class Hero {
        int side;
        int cell;
        int life;
        int greatest;
        int bonus;
        int speed;
        int score = -5;
        int[] amounts = {2, 3, 1};
        int[] most = {2, 3, 1};

        Hero copy() {
            Hero c = new Hero();
            c.side = side;
            c.cell = cell;
            c.life = life;
            c.greatest = greatest;
            c.bonus = bonus;
            c.speed = speed;
            c.score = score;
            c.amounts = amounts.clone();
            c.most = most.clone();
            return c;
        }
    }

    /** Value, end and count stand under the kind, the fighter and the source. */
    private static final class World {
        TreeSet<Integer> walls = new TreeSet<>();
        List<Hero> heroes = new ArrayList<>();
        Map<List<Integer>, int[]> conditions = new LinkedHashMap<>();
        List<int[]> journal = new ArrayList<>();
        String[] powers = {"", "", "", ""};
        List<Integer> order = new ArrayList<>();
        int turn = -1;
        int round;
        int steps;
        boolean acted;
        int encounters;
        int turns;
        int acts;
        int rests;

        World copy() {
            World c = new World();
            c.walls.addAll(walls);
            heroes.forEach(h -> c.heroes.add(h.copy()));
            conditions.forEach((k, v) -> c.conditions.put(k, v.clone()));
            c.journal.addAll(journal);
            c.powers = powers.clone();
            c.order.addAll(order);
            c.turn = turn;
            c.round = round;
            c.steps = steps;
            c.acted = acted;
            c.encounters = encounters;
            c.turns = turns;
            c.acts = acts;
            c.rests = rests;
            return c;
        }
    }

    private World w = new World();
    private World image = null;
    private final ArrayDeque<World> changes = new ArrayDeque<>();
    private String tape = "";
    private int reason = -5;

    private int no(int why) {
        reason = why;
        return -3;
    }

    private void change() {
        changes.addLast(w.copy());
        if (changes.size() > 6) {
            changes.removeFirst();
        }
    }

    private static boolean within(int n, int least, int most) {
        return least <= n && n <= most;
    }

    private boolean isHero(int n) {
        return within(n, 0, w.heroes.size() - 1);
    }

    private boolean taken(int cell) {
        return w.walls.contains(cell) || w.heroes.stream().anyMatch(h -> h.cell == cell);
    }

    private void tell(int kind, int fighter, int number) {
        w.journal.add(new int[] {kind, fighter, number});
    }

    private int values(int fighter, int kind) {
        return w.conditions.entrySet().stream()
            .filter(c -> c.getKey().get(0) == kind && c.getKey().get(1) == fighter)
            .mapToInt(c -> c.getValue()[0]).sum();
    }

    private boolean can(int fighter) {
        return w.heroes.get(fighter).life > 0 && values(fighter, 1) == 0 && values(fighter, 5) == 0;
    }

    int add(int side, int cell, int life, int bonus, int speed) {
        if (!within(side, 0, 1) || !within(cell, 0, 99)) {
            return -1;
        }
        if (!within(life, 1, 99) || !within(bonus, -5, 9) || !within(speed, 1, 9)) {
            return -2;
        }
        if (taken(cell)) {
            return no(5);
        }
        if (w.heroes.size() == 8) {
            return -4;
        }
        change();
        Hero h = new Hero();
        h.side = side;
        h.cell = cell;
        h.life = life;
        h.greatest = life;
        h.bonus = bonus;
        h.speed = speed;
        w.heroes.add(h);
        tell(0, w.heroes.size() - 1, life);
        return w.heroes.size() - 1;
    }

    int wall(int cell) {
        if (!within(cell, 0, 99)) {
            return -1;
        }
        if (w.heroes.stream().anyMatch(h -> h.cell == cell)) {
            return no(5);
        }
        change();
        if (w.walls.remove(cell)) {
            return 0;
        }
        w.walls.add(cell);
        return 1;
    }

    int amount(int fighter, int resource, int amount) {
        if (!isHero(fighter) || !within(resource, 0, 2)) {
            return -1;
        }
        if (!within(amount, 0, 9)) {
            return -2;
        }
        if (w.round > 0) {
            return no(2);
        }
        change();
        Hero h = w.heroes.get(fighter);
        int before = h.most[resource];
        h.most[resource] = amount;
        h.amounts[resource] = amount;
        return before;
    }

    int begin(int seed) {
        if (w.round > 0) {
            return no(2);
        }
        if (w.heroes.isEmpty()) {
            return no(10);
        }
        change();
        long z = seed;
        for (int i = 0; i < w.heroes.size(); i++) {
            z = (z * 1103515245L + 12345L) & 0xFFFFFFFFL;
            w.heroes.get(i).score = w.heroes.get(i).bonus + 1 + (int) (z / 65536 % 20);
            w.order.add(i);
        }
        w.order.sort(Comparator.<Integer>comparingInt(i -> -w.heroes.get(i).score)
            .thenComparingInt(i -> -w.heroes.get(i).bonus).thenComparingInt(i -> i));
        w.round = 1;
        w.encounters++;
        start(w.order.get(0));
        return w.turn;
    }

    private void end(Predicate<Map.Entry<List<Integer>, int[]>> which) {
        List<List<Integer>> gone = new ArrayList<>();
        for (Map.Entry<List<Integer>, int[]> c : w.conditions.entrySet()) {
            if (which.test(c)) {
                gone.add(c.getKey());
            }
        }
        for (List<Integer> key : gone) {
            w.conditions.remove(key);
            tell(4, key.get(1), key.get(0));
        }
    }

    /** The part is 1 for those that the fighter has, 2 for those that it made. */
    private void countDown(int part, int fighter, int end) {
        w.conditions.forEach((key, c) -> c[2] -= key.get(part) == fighter && c[1] == end ? 1 : 0);
        end(c -> c.getValue()[2] == 0);
    }

    private void start(int fighter) {
        w.turn = fighter;
        w.steps = 0;
        w.acted = false;
        w.turns++;
        tell(8, fighter, w.round);
        countDown(2, fighter, 1);
        for (List<Integer> key : new ArrayList<>(w.conditions.keySet())) {
            if (key.get(0) == 0 && key.get(1) == fighter && w.conditions.containsKey(key)) {
                harm(fighter, w.conditions.get(key)[0]);
            }
        }
    }

    private int harm(int fighter, int n) {
        Hero h = w.heroes.get(fighter);
        int lost = Math.min(h.life, Math.max(0, n));
        if (h.life == 0 || lost == 0) {
            return 0;
        }
        h.life -= lost;
        tell(1, fighter, lost);
        end(c -> c.getKey().get(1) == fighter
            && (h.life == 0 || c.getValue()[1] == 2 || c.getKey().get(0) == 5));
        return lost;
    }

    private int harmWithMarks(int fighter, int n) {
        return harm(fighter, n + values(fighter, 4) - values(fighter, 2));
    }

    private int mend(int fighter, int n) {
        Hero h = w.heroes.get(fighter);
        int gained = Math.min(h.greatest, h.life + n) - h.life;
        h.life += gained;
        if (gained > 0) {
            tell(2, fighter, gained);
        }
        return gained;
    }

    int finish() {
        if (w.round == 0) {
            return no(1);
        }
        change();
        int rounds = w.round;
        w.round = 0;
        w.turn = -1;
        w.order.clear();
        w.heroes.forEach(h -> h.score = -5);
        end(c -> c.getValue()[1] < 2);
        return rounds;
    }

    int endTurn() {
        if (w.round == 0) {
            return no(1);
        }
        change();
        tell(9, w.turn, w.round);
        countDown(1, w.turn, 0);
        int next = w.order.indexOf(w.turn) + 1;
        if (next == w.order.size()) {
            next = 0;
            w.round++;
        }
        start(w.order.get(next));
        return w.turn;
    }

    private int cannot(boolean act) {
        return w.round == 0 ? 1 : !can(w.turn) ? 3 : act && w.acted ? 4 : 0;
    }

    int delay(int other) {
        if (!isHero(other)) {
            return -1;
        }
        if (cannot(true) > 0) {
            return no(cannot(true));
        }
        if (w.order.indexOf(other) <= w.order.indexOf(w.turn)) {
            return no(11);
        }
        change();
        int next = w.order.get(w.order.indexOf(w.turn) + 1);
        w.order.remove((Integer) w.turn);
        w.order.add(w.order.indexOf(other) + 1, w.turn);
        start(next);
        return w.turn;
    }

    private int left() {
        int speed = w.heroes.get(w.turn).speed;
        return Math.max(0, (values(w.turn, 3) > 0 ? 2 * speed : speed) - w.steps);
    }

    /** Every cell asks its neighbors until none gets nearer. */
    private int distance(int goal) {
        Hero h = w.heroes.get(w.turn);
        int[] far = new int[100];
        java.util.Arrays.fill(far, 1000);
        far[h.cell] = 0;
        for (boolean nearer = true; nearer;) {
            nearer = false;
            for (int c = 0; c < 100; c++) {
                int cell = c;
                boolean barred = w.walls.contains(c) || w.heroes.stream()
                    .anyMatch(o -> o.cell == cell && o.side != h.side && o.life > 0);
                int best = far[c];
                for (int n : region(1, c, 0, 1)) {
                    best = Math.min(best, far[n] + 1);
                }
                if (!barred && best < far[c]) {
                    far[c] = best;
                    nearer = true;
                }
            }
        }
        return far[goal] >= 1000 ? -5 : far[goal];
    }

    int move(int cell) {
        if (!within(cell, 0, 99)) {
            return -1;
        }
        if (cannot(false) > 0) {
            return no(cannot(false));
        }
        if (taken(cell)) {
            return no(5);
        }
        int far = distance(cell);
        if (far < 0 || far > left()) {
            return no(6);
        }
        change();
        w.steps += far;
        w.heroes.get(w.turn).cell = cell;
        tell(7, w.turn, cell);
        return left();
    }

    int strike(int other) {
        if (!isHero(other)) {
            return -1;
        }
        if (cannot(true) > 0) {
            return no(cannot(true));
        }
        Hero me = w.heroes.get(w.turn);
        Hero it = w.heroes.get(other);
        if (it.side == me.side || it.life == 0 || !region(1, me.cell, 0, 1).contains(it.cell)) {
            return no(7);
        }
        change();
        w.acted = true;
        w.acts++;
        tell(10, w.turn, other);
        return harmWithMarks(other, 5);
    }

    int feed(int n, int... bytes) {
        boolean right = within(n, 1, 5);
        for (int b : bytes) {
            right &= within(b, 0, 127);
        }
        if (!right) {
            return -2;
        }
        if (tape.length() + n > 40) {
            return -4;
        }
        for (int i = 0; i < n; i++) {
            tape += (char) bytes[i];
        }
        return tape.length();
    }

    int power(int power) {
        if (!within(power, 0, 3)) {
            return -1;
        }
        String text = tape;
        tape = "";
        if (!TEXT.matcher(text).matches()) {
            int good = 0;
            for (int length = 1; length <= text.length(); length++) {
                Matcher m = TEXT.matcher(text.substring(0, length));
                if (m.matches() || m.hitEnd()) {
                    good = length;
                }
            }
            return -100 - good;
        }
        change();
        w.powers[power] = text;
        return effects(text).length;
    }

    private static String[] effects(String text) {
        String behind = text.substring(3);
        return (behind.indexOf('$') < 0 ? behind : behind.substring(0, behind.indexOf('$'))).split(",");
    }

    int cast(int power, int cell, int direction) {
        if (!within(power, 0, 3) || !within(cell, 0, 99) || !within(direction, 0, 3)) {
            return -1;
        }
        if (cannot(true) > 0) {
            return no(cannot(true));
        }
        String text = w.powers[power];
        if (text.isEmpty()) {
            return no(8);
        }
        int dollar = text.indexOf('$');
        Hero me = w.heroes.get(w.turn);
        if (dollar > 0 && me.amounts[text.charAt(dollar + 1) - '0'] < text.charAt(dollar + 2) - '0') {
            return no(9);
        }
        change();
        w.acted = true;
        w.acts++;
        tell(10, w.turn, 10 + power);
        if (dollar > 0) {
            me.amounts[text.charAt(dollar + 1) - '0'] -= text.charAt(dollar + 2) - '0';
            tell(5, w.turn, Integer.parseInt(text.substring(dollar + 1)));
        }
        int shape = "sdcl".indexOf(text.charAt(0));
        TreeSet<Integer> area = region(shape, shape < 2 ? cell : me.cell, direction, text.charAt(1) - '0');
        List<Integer> met = new ArrayList<>(w.order);
        for (int i = 0; i < w.heroes.size(); i++) {
            if (!met.contains(i)) {
                met.add(i);
            }
        }
        met.removeIf(i -> !area.contains(w.heroes.get(i).cell));
        for (String effect : effects(text)) {
            met.forEach(i -> affect(i, effect));
        }
        return met.size();
    }

    private void affect(int i, String effect) {
        boolean friend = w.heroes.get(i).side == w.heroes.get(w.turn).side;
        int number = Integer.parseInt(effect.substring(1));
        if (effect.charAt(0) == 'h' && !friend) {
            harmWithMarks(i, number);
        } else if (effect.charAt(0) == 'm' && friend) {
            mend(i, number);
        } else if (effect.charAt(0) == 'k' && w.heroes.get(i).life > 0) {
            int kind = effect.charAt(1) - '0';
            if ((kind == 2 || kind == 3) == friend) {
                List<Integer> key = List.of(kind, i, w.turn);
                int[] old = w.conditions.getOrDefault(key, new int[] {0, 0, 0});
                w.conditions.put(key, new int[] {Math.max(old[0], number / 100 % 10), number / 10 % 10,
                    Math.max(old[2], number % 10)});
                tell(3, i, kind);
            }
        }
    }

    int rest(int isLong) {
        if (!within(isLong, 0, 1)) {
            return -1;
        }
        if (w.round > 0) {
            return no(2);
        }
        if (w.heroes.isEmpty()) {
            return no(10);
        }
        change();
        w.rests++;
        int sum = 0;
        for (int i = 0; i < w.heroes.size(); i++) {
            Hero h = w.heroes.get(i);
            if (isLong == 1) {
                sum += mend(i, h.greatest);
            } else if (h.life > 0) {
                sum += mend(i, (int) Math.ceil(h.greatest / 2.0));
            }
            for (int r = 0; r < (isLong == 1 ? 3 : 1); r++) {
                if (h.amounts[r] < h.most[r]) {
                    tell(6, i, 10 * r + h.most[r] - h.amounts[r]);
                    h.amounts[r] = h.most[r];
                }
            }
        }
        if (isLong == 1) {
            end(c -> c.getValue()[1] == 3);
        }
        return sum;
    }

    int fighter(int fighter, int what) {
        if (!isHero(fighter)) {
            return -100;
        }
        Hero h = w.heroes.get(fighter);
        int own = (int) w.conditions.keySet().stream().filter(k -> k.get(1) == fighter).count();
        int place = w.order.indexOf(fighter);
        int[] plain = {h.side, h.cell, h.life, h.greatest, h.bonus, h.speed, can(fighter) ? 1 : 0,
            place < 0 ? -5 : place, h.score, own};
        if (within(what, 0, 9)) {
            return plain[what];
        }
        if (within(what, 10, 12)) {
            return h.amounts[what - 10];
        }
        if (within(what, 20, 22)) {
            return h.most[what - 20];
        }
        return within(what, 30, 35) ? values(fighter, what - 30) : -100;
    }

    int turn(int what) {
        if (what < 0 || within(what, 4, 9)) {
            return -1;
        }
        if (what == 0) {
            return w.round;
        }
        if (w.round == 0) {
            return -5;
        }
        if (what < 4) {
            return what == 1 ? w.turn : what == 2 ? left() : w.acted ? 1 : 0;
        }
        return what - 10 < w.order.size() ? w.order.get(what - 10) : -5;
    }

    int condition(int i, int what) {
        if (i == -1) {
            return w.conditions.size();
        }
        if (!within(i, 0, w.conditions.size() - 1) || !within(what, 0, 5)) {
            return -1;
        }
        List<Integer> key = new ArrayList<>(w.conditions.keySet()).get(i);
        return what < 3 ? key.get(what) : w.conditions.get(key)[what - 3];
    }

    private static TreeSet<Integer> region(int shape, int cell, int direction, int size) {
        TreeSet<Integer> found = new TreeSet<>();
        int x = cell % 10;
        int y = cell / 10;
        for (int c = 0; c < 100; c++) {
            int dx = c % 10 - x;
            int dy = c / 10 - y;
            int k = direction == 0 ? dx : direction == 1 ? dy : direction == 2 ? -dx : -dy;
            int side = Math.abs(direction % 2 == 0 ? dy : dx);
            boolean square = Math.abs(dx) <= size && Math.abs(dy) <= size;
            boolean diamond = Math.abs(dx) + Math.abs(dy) <= size;
            boolean ahead = within(k, 1, size);
            if (shape == 0 ? square : shape == 1 ? diamond : ahead && side <= (shape == 2 ? k / 2 : 0)) {
                found.add(c);
            }
        }
        return found;
    }

    int area(int shape, int cell, int direction, int size, int i) {
        if (!within(shape, 0, 3) || !within(cell, 0, 99) || !within(direction, 0, 3)) {
            return -1;
        }
        if (!within(size, 0, 5) || i < -1) {
            return -2;
        }
        List<Integer> cells = new ArrayList<>(region(shape, cell, direction, size));
        return i == -1 ? cells.size() : i < cells.size() ? cells.get(i) : -5;
    }

    int way(int cell) {
        if (!within(cell, 0, 99)) {
            return -1;
        }
        if (w.round == 0) {
            return no(1);
        }
        return cell == w.heroes.get(w.turn).cell ? 0 : taken(cell) ? -5 : distance(cell);
    }

    int entry(int i, int what) {
        if (i == -1) {
            return w.journal.size();
        }
        boolean kept = within(i, 0, Math.min(300, w.journal.size()) - 1);
        return kept && within(what, 0, 2) ? w.journal.get(i)[what] : -1;
    }

    int replayed(int fighter, int what) {
        if (!isHero(fighter) || !within(what, 0, 5)) {
            return -1;
        }
        if (w.journal.size() > 300) {
            return no(10);
        }
        int[] told = {0, 0, 0, -5, 0, 0};
        for (int[] e : w.journal) {
            if (e[1] == fighter) {
                told[0] += e[0] == 0 || e[0] == 2 ? e[2] : e[0] == 1 ? -e[2] : 0;
                told[1] += e[0] == 1 ? 1 : 0;
                told[2] += e[0] == 5 ? e[2] % 10 : e[0] == 6 ? -(e[2] % 10) : 0;
                told[3] = e[0] == 7 ? e[2] : told[3];
                told[4] += e[0] == 8 ? 1 : 0;
                told[5] += e[0] == 3 ? 1 : 0;
            }
        }
        return told[what];
    }

    int reason() {
        return reason;
    }

    private int told(int kind) {
        return w.journal.stream().filter(e -> e[0] == kind).mapToInt(e -> e[2]).sum();
    }

    int account(int what) {
        int down = (int) w.heroes.stream().filter(h -> h.life == 0).count();
        int[] lives = new int[2];
        w.heroes.forEach(h -> lives[h.side] += h.life);
        int[] all = {w.heroes.size(), down, lives[0], lives[1], told(1), told(2), w.encounters, w.turns,
            w.acts, w.walls.size(), w.rests};
        return within(what, 0, 10) ? all[what] : -1;
    }

    int back() {
        if (changes.isEmpty()) {
            return no(10);
        }
        w = changes.removeLast();
        return changes.size();
    }

    int image() {
        image = w.copy();
        return w.heroes.size();
    }

    int undo() {
        if (image == null) {
            return no(10);
        }
        w = image.copy();
        changes.clear();
        return w.heroes.size();
    }

    int count(int what) {
        int set = 0;
        for (int i = 0; i < 4; i++) {
            set += w.powers[i].isEmpty() ? 0 : 1 << i;
        }
        return what == 0 ? tape.length() : what == 1 ? changes.size() : what == 2 ? set : -1;
    }
}
