import java.util.Arrays;

/**
 * A ledger for encounters in a dungeon: fighters on a grid, an order of turns with ties and delays,
 * conditions that end when told, resources and rests, areas by shapes, powers that are read from
 * texts, movement around walls, a journal that is replayed, reasons, accounts, changes that are
 * undone, and a snapshot. The class is not thread-safe.
 */
public final class EncounterLedger {
    public static final int NONE = -1, BAD = -2, STATE = -3, FULL = -4;

    private static final int ABSENT = -5;
    private static final int INVALID = -100;

    private static final int COLUMNS = 10;
    private static final int CELLS = 100;
    private static final int DIRECTIONS = 4;
    private static final int MOST_FIGHTERS = 8;
    private static final int MOST_LIFE = 99;
    private static final int LEAST_BONUS = -5;
    private static final int MOST_BONUS = 9;
    private static final int MOST_SPEED = 9;
    private static final int RESOURCES = 3;
    private static final int MOST_AMOUNT = 9;
    private static final int STRIKE_HARM = 5;
    private static final int MOST_BYTES_FED = 5;
    private static final int MOST_BYTE = 127;

    private static final int SQUARE = 0, DIAMOND = 1, CONE = 2, LINE = 3;
    private static final int SHAPES = 4;
    private static final int MOST_SIZE = 5;

    private static final int POISON = 0, STUN = 1, SHIELD = 2, HASTE = 3, MARK = 4, SLEEP = 5;
    private static final int KINDS = 6;

    private static final int BY_TURN_END = 0, BY_SOURCE_TURN = 1, BY_HARM = 2, BY_LONG_REST = 3;
    private static final int ENDS = 4;

    private static final int ADDED = 0, HARMED = 1, MENDED = 2, MADE = 3, ENDED = 4, SPENT = 5;
    private static final int REGAINED = 6, MOVED = 7, TURN_BEGAN = 8, TURN_ENDED = 9, ACTED = 10;

    private static final int NO_ENCOUNTER = 1, IN_ENCOUNTER = 2, CANNOT_ACT = 3, HAS_ACTED = 4;
    private static final int NOT_FREE = 5, NO_WAY = 6, NO_TARGET = 7, NO_POWER = 8, TOO_LITTLE = 9;
    private static final int NOTHING = 10, NOT_LATER = 11;

    private final State now = new State();
    private final State saved = new State();
    private final Changes changes = new Changes();
    private final Tape tape = new Tape();
    private final Ways ways = new Ways();
    private boolean hasImage = false;
    private int latestReason = ABSENT;

    public EncounterLedger() {
    }

    public int add(int side, int cell, int life, int bonus, int speed) {
        if (side < 0 || side > 1 || !isCell(cell)) {
            return NONE;
        }
        boolean inRange = life >= 1 && life <= MOST_LIFE && bonus >= LEAST_BONUS && bonus <= MOST_BONUS
            && speed >= 1 && speed <= MOST_SPEED;
        if (!inRange) {
            return BAD;
        }
        if (!now.isFree(cell)) {
            return refuse(NOT_FREE);
        }
        if (now.fighters.size() >= MOST_FIGHTERS) {
            return FULL;
        }
        changes.keep(now);
        return now.fighters.join(side, cell, life, bonus, speed);
    }

    public int wall(int cell) {
        if (!isCell(cell)) {
            return NONE;
        }
        if (now.fighters.standingOn(cell) != NONE) {
            return refuse(NOT_FREE);
        }
        changes.keep(now);
        int turned = 1 - now.walls.get(cell, 0);
        now.walls.set(cell, 0, turned);
        return turned;
    }

    public int amount(int fighter, int resource, int amount) {
        if (!now.fighters.has(fighter) || resource < 0 || resource >= RESOURCES) {
            return NONE;
        }
        if (amount < 0 || amount > MOST_AMOUNT) {
            return BAD;
        }
        if (now.encounter.isOn()) {
            return refuse(IN_ENCOUNTER);
        }
        changes.keep(now);
        int before = now.fighters.at(fighter, Fighters.FULL_AMOUNT + resource);
        now.fighters.put(fighter, Fighters.FULL_AMOUNT + resource, amount);
        now.fighters.put(fighter, Fighters.AMOUNT + resource, amount);
        return before;
    }

    public int begin(int seed) {
        if (now.encounter.isOn()) {
            return refuse(IN_ENCOUNTER);
        }
        if (now.fighters.size() == 0) {
            return refuse(NOTHING);
        }
        changes.keep(now);
        now.encounter.open(seed);
        now.encounter.startTurn();
        return now.encounter.current();
    }

    public int finish() {
        if (!now.encounter.isOn()) {
            return refuse(NO_ENCOUNTER);
        }
        changes.keep(now);
        int rounds = now.encounter.round;
        now.encounter.close();
        return rounds;
    }

    public int endTurn() {
        if (!now.encounter.isOn()) {
            return refuse(NO_ENCOUNTER);
        }
        changes.keep(now);
        now.encounter.leaveTurn();
        now.encounter.startTurn();
        return now.encounter.current();
    }

    public int delay(int other) {
        if (!now.fighters.has(other)) {
            return NONE;
        }
        int why = whyNoAct();
        if (why == 0 && !now.encounter.comesLater(other)) {
            why = NOT_LATER;
        }
        if (why != 0) {
            return refuse(why);
        }
        changes.keep(now);
        now.encounter.putBehind(other);
        now.encounter.startTurn();
        return now.encounter.current();
    }

    public int move(int cell) {
        if (!isCell(cell)) {
            return NONE;
        }
        int why = whyCannotAct();
        if (why == 0 && !now.isFree(cell)) {
            why = NOT_FREE;
        }
        if (why != 0) {
            return refuse(why);
        }
        int steps = ways.measure(now, now.encounter.current(), cell);
        if (steps == ABSENT || steps > stepsLeft()) {
            return refuse(NO_WAY);
        }
        changes.keep(now);
        now.encounter.steps += steps;
        now.fighters.moveTo(now.encounter.current(), cell);
        return stepsLeft();
    }

    public int strike(int other) {
        if (!now.fighters.has(other)) {
            return NONE;
        }
        int why = whyNoAct();
        if (why == 0 && !canBeStruck(other)) {
            why = NO_TARGET;
        }
        if (why != 0) {
            return refuse(why);
        }
        changes.keep(now);
        now.encounter.act(other);
        return now.fighters.hurt(other, STRIKE_HARM);
    }

    public int feed(int n, int a, int b, int c, int d, int e) {
        boolean inRange = n >= 1 && n <= MOST_BYTES_FED
            && isByte(a) && isByte(b) && isByte(c) && isByte(d) && isByte(e);
        if (!inRange) {
            return BAD;
        }
        if (!tape.hasRoomFor(n)) {
            return FULL;
        }
        for (int i = 0; i < n; i++) {
            tape.append(i == 0 ? a : i == 1 ? b : i == 2 ? c : i == 3 ? d : e);
        }
        return tape.length;
    }

    public int power(int power) {
        if (!now.powers.holds(power)) {
            return NONE;
        }
        boolean right = tape.readPower();
        int wrongAt = tape.position;
        tape.clear();
        if (!right) {
            return INVALID - wrongAt;
        }
        changes.keep(now);
        for (int column = 0; column < Tape.WIDTH; column++) {
            now.powers.set(power, column, tape.part(column));
        }
        return tape.part(Tape.EFFECTS);
    }

    public int cast(int power, int cell, int direction) {
        if (!now.powers.holds(power) || !isCell(cell) || !isDirection(direction)) {
            return NONE;
        }
        int why = whyNoCast(power);
        if (why != 0) {
            return refuse(why);
        }
        changes.keep(now);
        int caster = now.encounter.current();
        boolean hasMiddle = now.powers.get(power, Tape.SHAPE) < CONE;
        int origin = hasMiddle ? cell : now.fighters.at(caster, Fighters.CELL);
        int met = countMet(power, origin, direction);
        now.encounter.act(10 + power);
        now.fighters.spend(caster, now.powers.get(power, Tape.RESOURCE), now.powers.get(power, Tape.COST));
        int effects = now.powers.get(power, Tape.EFFECTS);
        for (int effect = 0; effect < effects; effect++) {
            spread(power, effect, origin, direction);
        }
        return met;
    }

    public int rest(int isLong) {
        if (isLong != 0 && isLong != 1) {
            return NONE;
        }
        if (now.encounter.isOn()) {
            return refuse(IN_ENCOUNTER);
        }
        if (now.fighters.size() == 0) {
            return refuse(NOTHING);
        }
        changes.keep(now);
        now.rests++;
        int gained = 0;
        for (int fighter = 0; fighter < now.fighters.size(); fighter++) {
            gained += isLong == 1 ? now.fighters.restLong(fighter) : now.fighters.restShort(fighter);
        }
        if (isLong == 1) {
            now.conditions.endWith(BY_LONG_REST);
        }
        return gained;
    }

    public int fighter(int fighter, int what) {
        if (!now.fighters.has(fighter)) {
            return INVALID;
        }
        if (what >= 0 && what <= Fighters.SPEED) {
            return now.fighters.at(fighter, what);
        }
        if (what >= 10 && what < 10 + RESOURCES) {
            return now.fighters.at(fighter, Fighters.AMOUNT + what - 10);
        }
        if (what >= 20 && what < 20 + RESOURCES) {
            return now.fighters.at(fighter, Fighters.FULL_AMOUNT + what - 20);
        }
        if (what >= 30 && what < 30 + KINDS) {
            return now.conditions.sumOf(fighter, what - 30);
        }
        switch (what) {
            case 6:
                return now.fighters.canAct(fighter) ? 1 : 0;
            case 7:
                return now.encounter.placeOf(fighter);
            case 8:
                return now.fighters.at(fighter, Fighters.SCORE);
            case 9:
                return now.conditions.numberOf(fighter);
            default:
                return INVALID;
        }
    }

    public int turn(int what) {
        if (what < 0 || (what > 3 && what < 10)) {
            return NONE;
        }
        if (what == 0) {
            return now.encounter.round;
        }
        if (!now.encounter.isOn()) {
            return ABSENT;
        }
        switch (what) {
            case 1:
                return now.encounter.current();
            case 2:
                return stepsLeft();
            case 3:
                return now.encounter.acted ? 1 : 0;
            default:
                return now.encounter.atPlace(what - 10);
        }
    }

    public int condition(int i, int what) {
        if (i == -1) {
            return now.conditions.size();
        }
        if (!now.conditions.has(i) || what < 0 || what >= Conditions.WIDTH) {
            return NONE;
        }
        return now.conditions.at(i, what);
    }

    public int area(int shape, int cell, int direction, int size, int i) {
        if (shape < 0 || shape >= SHAPES || !isCell(cell) || !isDirection(direction)) {
            return NONE;
        }
        if (size < 0 || size > MOST_SIZE || i < -1) {
            return BAD;
        }
        int found = 0;
        for (int other = 0; other < CELLS; other++) {
            if (isInArea(shape, cell, direction, size, other)) {
                if (found == i) {
                    return other;
                }
                found++;
            }
        }
        return i == -1 ? found : ABSENT;
    }

    public int way(int cell) {
        if (!isCell(cell)) {
            return NONE;
        }
        if (!now.encounter.isOn()) {
            return refuse(NO_ENCOUNTER);
        }
        int walker = now.encounter.current();
        if (cell == now.fighters.at(walker, Fighters.CELL)) {
            return 0;
        }
        return now.isFree(cell) ? ways.measure(now, walker, cell) : ABSENT;
    }

    public int entry(int i, int what) {
        if (i == -1) {
            return now.journal.total;
        }
        if (!now.journal.keeps(i) || what < 0 || what >= Journal.WIDTH) {
            return NONE;
        }
        return now.journal.at(i, what);
    }

    public int replayed(int fighter, int what) {
        if (!now.fighters.has(fighter) || what < 0 || what > 5) {
            return NONE;
        }
        if (!now.journal.keepsAll()) {
            return refuse(NOTHING);
        }
        switch (what) {
            case 0:
                return now.journal.lifeOf(fighter);
            case 1:
                return now.journal.numberOf(HARMED, fighter);
            case 2:
                return now.journal.spentBy(fighter);
            case 3:
                return now.journal.latestMoveOf(fighter);
            case 4:
                return now.journal.numberOf(TURN_BEGAN, fighter);
            default:
                return now.journal.numberOf(MADE, fighter);
        }
    }

    public int reason() {
        return latestReason;
    }

    public int account(int what) {
        switch (what) {
            case 0:
                return now.fighters.size();
            case 1:
                return now.fighters.numberDown();
            case 2:
                return now.fighters.livesOf(0);
            case 3:
                return now.fighters.livesOf(1);
            case 4:
                return now.fighters.harm;
            case 5:
                return now.fighters.mended;
            case 6:
                return now.encounter.opened;
            case 7:
                return now.encounter.turns;
            case 8:
                return now.encounter.acts;
            case 9:
                return now.numberOfWalls();
            case 10:
                return now.rests;
            default:
                return NONE;
        }
    }

    public int back() {
        if (changes.size == 0) {
            return refuse(NOTHING);
        }
        changes.takeBack(now);
        return changes.size;
    }

    public int image() {
        saved.become(now);
        hasImage = true;
        return now.fighters.size();
    }

    public int undo() {
        if (!hasImage) {
            return refuse(NOTHING);
        }
        now.become(saved);
        changes.forget();
        return now.fighters.size();
    }

    public int count(int what) {
        switch (what) {
            case 0:
                return tape.length;
            case 1:
                return changes.size;
            case 2:
                return setOfPowers();
            default:
                return NONE;
        }
    }

    private static boolean isCell(int cell) {
        return cell >= 0 && cell < CELLS;
    }

    private static boolean isDirection(int direction) {
        return direction >= 0 && direction < DIRECTIONS;
    }

    private static boolean isByte(int number) {
        return number >= 0 && number <= MOST_BYTE;
    }

    private int refuse(int why) {
        latestReason = why;
        return STATE;
    }

    /** The reason for which the fighter whose turn it is can do nothing, or 0. */
    private int whyCannotAct() {
        if (!now.encounter.isOn()) {
            return NO_ENCOUNTER;
        }
        return now.fighters.canAct(now.encounter.current()) ? 0 : CANNOT_ACT;
    }

    /** The reason for which the fighter whose turn it is can neither strike nor cast, or 0. */
    private int whyNoAct() {
        int why = whyCannotAct();
        return why == 0 && now.encounter.acted ? HAS_ACTED : why;
    }

    private int whyNoCast(int power) {
        int why = whyNoAct();
        if (why != 0) {
            return why;
        }
        if (now.powers.get(power, Tape.EFFECTS) == 0) {
            return NO_POWER;
        }
        int resource = now.powers.get(power, Tape.RESOURCE);
        int has = now.fighters.at(now.encounter.current(), Fighters.AMOUNT + resource);
        return has < now.powers.get(power, Tape.COST) ? TOO_LITTLE : 0;
    }

    private boolean canBeStruck(int other) {
        int striker = now.encounter.current();
        return now.fighters.areFoes(striker, other) && !now.fighters.isDown(other)
            && isInArea(DIAMOND, now.fighters.at(striker, Fighters.CELL), 0, 1,
                now.fighters.at(other, Fighters.CELL));
    }

    private int stepsLeft() {
        int walker = now.encounter.current();
        int speed = now.fighters.at(walker, Fighters.SPEED);
        int most = now.conditions.sumOf(walker, HASTE) > 0 ? 2 * speed : speed;
        return Math.max(0, most - now.encounter.steps);
    }

    private boolean isMet(int fighter, int power, int origin, int direction) {
        return isInArea(now.powers.get(power, Tape.SHAPE), origin, direction,
            now.powers.get(power, Tape.SIZE), now.fighters.at(fighter, Fighters.CELL));
    }

    private int countMet(int power, int origin, int direction) {
        int met = 0;
        for (int fighter = 0; fighter < now.fighters.size(); fighter++) {
            if (isMet(fighter, power, origin, direction)) {
                met++;
            }
        }
        return met;
    }

    /** Does one effect of a power to all fighters in its area. */
    private void spread(int power, int effect, int origin, int direction) {
        int caster = now.encounter.current();
        int start = Tape.FIRST_EFFECT + effect * Tape.EFFECT_WIDTH;
        int letter = now.powers.get(power, start);
        int number = now.powers.get(power, start + 1);
        boolean forFriends = letter == 'm' || letter == 'k' && (number == SHIELD || number == HASTE);
        for (int i = 0; i < now.fighters.size(); i++) {
            int target = now.encounter.inOrder(i);
            if (now.fighters.areFoes(caster, target) == forFriends
                || !isMet(target, power, origin, direction)) {
                continue;
            }
            if (letter == 'h') {
                now.fighters.hurt(target, number);
            } else if (letter == 'm') {
                now.fighters.mend(target, number);
            } else if (!now.fighters.isDown(target)) {
                now.conditions.make(number, target, caster, now.powers.get(power, start + 2),
                    now.powers.get(power, start + 3), now.powers.get(power, start + 4));
            }
        }
    }

    private int setOfPowers() {
        int set = 0;
        for (int power = 0; power < now.powers.used(); power++) {
            if (now.powers.get(power, Tape.EFFECTS) > 0) {
                set |= 1 << power;
            }
        }
        return set;
    }

    private static int columnStep(int direction) {
        return direction == 0 ? 1 : direction == 2 ? -1 : 0;
    }

    private static int rowStep(int direction) {
        return direction == 1 ? 1 : direction == 3 ? -1 : 0;
    }

    private static boolean isInArea(int shape, int origin, int direction, int size, int cell) {
        int columns = cell % COLUMNS - origin % COLUMNS;
        int rows = cell / COLUMNS - origin / COLUMNS;
        int ahead = columns * columnStep(direction) + rows * rowStep(direction);
        int aside = Math.abs(columns * rowStep(direction) + rows * columnStep(direction));
        switch (shape) {
            case SQUARE:
                return Math.max(Math.abs(columns), Math.abs(rows)) <= size;
            case DIAMOND:
                return Math.abs(columns) + Math.abs(rows) <= size;
            case CONE:
                return ahead >= 1 && ahead <= size && aside <= ahead / 2;
            case LINE:
                return ahead >= 1 && ahead <= size && aside == 0;
            default:
                return false;
        }
    }

    /** Rows of numbers; beyond its rows a table tells 0 and keeps nothing, so no index can go wrong. */
    private static final class Table {
        private final int width;
        private final int[] numbers;
        private int size;

        Table(int rows, int width, int size) {
            this.width = width;
            this.numbers = new int[Math.max(0, rows * width)];
            this.size = size;
        }

        int used() {
            return size;
        }

        boolean holds(int row) {
            return row >= 0 && row < size;
        }

        int get(int row, int column) {
            if (row < 0 || row >= size || column < 0 || column >= width) {
                return 0;
            }
            int index = row * width + column;
            return index >= 0 && index < numbers.length ? numbers[index] : 0;
        }

        void set(int row, int column, int number) {
            if (row < 0 || row >= size || column < 0 || column >= width) {
                return;
            }
            int index = row * width + column;
            if (index >= 0 && index < numbers.length) {
                numbers[index] = number;
            }
        }

        /** Adds a row of zeros and returns its number, or -1 if there is no room. */
        int append() {
            int start = size * width;
            if (start < 0 || start + width > numbers.length) {
                return -1;
            }
            for (int index = start; index < start + width && index < numbers.length; index++) {
                numbers[index] = 0;
            }
            size++;
            return size - 1;
        }

        void copyRow(int from, int to) {
            int start = from * width;
            int goal = to * width;
            boolean inside = from >= 0 && from < size && start >= 0 && start + width <= numbers.length
                && to >= 0 && to < size && goal >= 0 && goal + width <= numbers.length;
            if (inside && from != to) {
                System.arraycopy(numbers, start, numbers, goal, width);
            }
        }

        void cut(int rows) {
            if (rows >= 0 && rows < size) {
                size = rows;
            }
        }

        void copyRows(Table other) {
            int used = Math.min(other.size * other.width, Math.min(numbers.length, other.numbers.length));
            if (used > 0) {
                System.arraycopy(other.numbers, 0, numbers, 0, used);
            }
            size = other.size;
        }
    }

    /** What happened, in the order in which it happened. */
    private static final class Journal {
        static final int MOST = 300;
        static final int KIND = 0, FIGHTER = 1, NUMBER = 2, WIDTH = 3;

        private final int[] numbers = new int[MOST * WIDTH];
        private int total;

        void write(int kind, int fighter, int number) {
            int start = total * WIDTH;
            if (total < MOST && start >= 0 && start + NUMBER < numbers.length) {
                numbers[start + KIND] = kind;
                numbers[start + FIGHTER] = fighter;
                numbers[start + NUMBER] = number;
            }
            total++;
        }

        boolean keeps(int i) {
            return i >= 0 && i < total && i < MOST;
        }

        boolean keepsAll() {
            return total <= MOST;
        }

        int at(int i, int what) {
            if (i < 0 || i >= total || i >= MOST || what < 0 || what >= WIDTH) {
                return 0;
            }
            int index = i * WIDTH + what;
            return index < numbers.length ? numbers[index] : 0;
        }

        private boolean tells(int i, int kind, int fighter) {
            return at(i, KIND) == kind && at(i, FIGHTER) == fighter;
        }

        int numberOf(int kind, int fighter) {
            int found = 0;
            for (int i = 0; i < total && i < MOST; i++) {
                if (tells(i, kind, fighter)) {
                    found++;
                }
            }
            return found;
        }

        private int sumOf(int kind, int fighter) {
            int sum = 0;
            for (int i = 0; i < total && i < MOST; i++) {
                if (tells(i, kind, fighter)) {
                    sum += at(i, NUMBER);
                }
            }
            return sum;
        }

        /** The sum of amounts, without the resources that stand in the tens of the numbers. */
        private int sumOfAmounts(int kind, int fighter) {
            int sum = 0;
            for (int i = 0; i < total && i < MOST; i++) {
                if (tells(i, kind, fighter)) {
                    sum += at(i, NUMBER) % 10;
                }
            }
            return sum;
        }

        int lifeOf(int fighter) {
            return sumOf(ADDED, fighter) - sumOf(HARMED, fighter) + sumOf(MENDED, fighter);
        }

        int spentBy(int fighter) {
            return sumOfAmounts(SPENT, fighter) - sumOfAmounts(REGAINED, fighter);
        }

        int latestMoveOf(int fighter) {
            int cell = ABSENT;
            for (int i = 0; i < total && i < MOST; i++) {
                if (tells(i, MOVED, fighter)) {
                    cell = at(i, NUMBER);
                }
            }
            return cell;
        }

        void copyFrom(Journal other) {
            int used = Math.min(Math.min(other.total, MOST) * WIDTH, numbers.length);
            if (used > 0 && used <= other.numbers.length) {
                System.arraycopy(other.numbers, 0, numbers, 0, used);
            }
            total = other.total;
        }
    }

    /** The conditions, in the order in which they were made first. */
    private static final class Conditions {
        static final int KIND = 0, OWNER = 1, SOURCE = 2, VALUE = 3, END = 4, LEFT = 5, WIDTH = 6;
        static final int MOST = KINDS * MOST_FIGHTERS * MOST_FIGHTERS;

        private final Table rows = new Table(MOST, WIDTH, 0);
        private final Journal journal;
        private final int[] poisoners = new int[MOST_FIGHTERS];

        Conditions(Journal journal) {
            this.journal = journal;
        }

        int size() {
            return rows.used();
        }

        boolean has(int row) {
            return rows.holds(row);
        }

        int at(int row, int what) {
            return rows.get(row, what);
        }

        int find(int kind, int owner, int source) {
            for (int row = 0; row < rows.used(); row++) {
                if (rows.get(row, KIND) == kind && rows.get(row, OWNER) == owner
                    && rows.get(row, SOURCE) == source) {
                    return row;
                }
            }
            return -1;
        }

        void make(int kind, int owner, int source, int value, int end, int count) {
            int row = find(kind, owner, source);
            if (row < 0) {
                row = rows.append();
                rows.set(row, KIND, kind);
                rows.set(row, OWNER, owner);
                rows.set(row, SOURCE, source);
            }
            rows.set(row, VALUE, Math.max(value, rows.get(row, VALUE)));
            rows.set(row, END, end);
            rows.set(row, LEFT, Math.max(count, rows.get(row, LEFT)));
            journal.write(MADE, owner, kind);
        }

        int sumOf(int owner, int kind) {
            int sum = 0;
            for (int row = 0; row < rows.used(); row++) {
                if (rows.get(row, OWNER) == owner && rows.get(row, KIND) == kind) {
                    sum += rows.get(row, VALUE);
                }
            }
            return sum;
        }

        int numberOf(int owner) {
            int found = 0;
            for (int row = 0; row < rows.used(); row++) {
                if (rows.get(row, OWNER) == owner) {
                    found++;
                }
            }
            return found;
        }

        /** Notes who poisoned a fighter, since the rows move while its poisons do harm. */
        int listPoisoners(int owner) {
            int found = 0;
            for (int row = 0; row < rows.used(); row++) {
                boolean isPoison = rows.get(row, KIND) == POISON && rows.get(row, OWNER) == owner;
                if (isPoison && found < poisoners.length) {
                    poisoners[found] = rows.get(row, SOURCE);
                    found++;
                }
            }
            return found;
        }

        /** The value of a noted poison, or 0 if it has ended meanwhile. */
        int poisonBy(int i, int owner) {
            boolean noted = i >= 0 && i < poisoners.length;
            return noted ? rows.get(find(POISON, owner, poisoners[i]), VALUE) : 0;
        }

        void countTurnEnd(int owner) {
            for (int row = 0; row < rows.used(); row++) {
                if (rows.get(row, OWNER) == owner && rows.get(row, END) == BY_TURN_END) {
                    rows.set(row, LEFT, rows.get(row, LEFT) - 1);
                }
            }
            endCounted();
        }

        void countSourceTurn(int source) {
            for (int row = 0; row < rows.used(); row++) {
                if (rows.get(row, SOURCE) == source && rows.get(row, END) == BY_SOURCE_TURN) {
                    rows.set(row, LEFT, rows.get(row, LEFT) - 1);
                }
            }
            endCounted();
        }

        void endAllOf(int owner) {
            for (int row = 0; row < rows.used(); row++) {
                if (rows.get(row, OWNER) == owner) {
                    rows.set(row, LEFT, 0);
                }
            }
            endCounted();
        }

        void endHarmedOf(int owner) {
            for (int row = 0; row < rows.used(); row++) {
                boolean ends = rows.get(row, END) == BY_HARM || rows.get(row, KIND) == SLEEP;
                if (ends && rows.get(row, OWNER) == owner) {
                    rows.set(row, LEFT, 0);
                }
            }
            endCounted();
        }

        void endOfEncounter() {
            for (int row = 0; row < rows.used(); row++) {
                if (rows.get(row, END) == BY_TURN_END || rows.get(row, END) == BY_SOURCE_TURN) {
                    rows.set(row, LEFT, 0);
                }
            }
            endCounted();
        }

        void endWith(int end) {
            for (int row = 0; row < rows.used(); row++) {
                if (rows.get(row, END) == end) {
                    rows.set(row, LEFT, 0);
                }
            }
            endCounted();
        }

        /** Ends those whose count is 0, in their order. */
        private void endCounted() {
            int kept = 0;
            for (int row = 0; row < rows.used(); row++) {
                if (rows.get(row, LEFT) == 0) {
                    journal.write(ENDED, rows.get(row, OWNER), rows.get(row, KIND));
                } else {
                    rows.copyRow(row, kept);
                    kept++;
                }
            }
            rows.cut(kept);
        }

        void copyFrom(Conditions other) {
            rows.copyRows(other.rows);
        }
    }

    /** The fighters and what happens to their lives and resources. */
    private static final class Fighters {
        static final int SIDE = 0, CELL = 1, LIFE = 2, MOST = 3, BONUS = 4, SPEED = 5, SCORE = 6;
        static final int AMOUNT = 7, FULL_AMOUNT = AMOUNT + RESOURCES, WIDTH = FULL_AMOUNT + RESOURCES;

        private final Table rows = new Table(MOST_FIGHTERS, WIDTH, 0);
        private final Conditions conditions;
        private final Journal journal;
        private int harm;
        private int mended;

        Fighters(Conditions conditions, Journal journal) {
            this.conditions = conditions;
            this.journal = journal;
        }

        int size() {
            return rows.used();
        }

        boolean has(int fighter) {
            return rows.holds(fighter);
        }

        int at(int fighter, int what) {
            return rows.get(fighter, what);
        }

        void put(int fighter, int what, int number) {
            rows.set(fighter, what, number);
        }

        int join(int side, int cell, int life, int bonus, int speed) {
            int fighter = rows.append();
            rows.set(fighter, SIDE, side);
            rows.set(fighter, CELL, cell);
            rows.set(fighter, LIFE, life);
            rows.set(fighter, MOST, life);
            rows.set(fighter, BONUS, bonus);
            rows.set(fighter, SPEED, speed);
            rows.set(fighter, SCORE, ABSENT);
            for (int resource = 0; resource < RESOURCES; resource++) {
                int amount = resource == 0 ? 2 : resource == 1 ? 3 : 1;
                rows.set(fighter, AMOUNT + resource, amount);
                rows.set(fighter, FULL_AMOUNT + resource, amount);
            }
            journal.write(ADDED, fighter, life);
            return fighter;
        }

        int standingOn(int cell) {
            for (int fighter = 0; fighter < rows.used(); fighter++) {
                if (rows.get(fighter, CELL) == cell) {
                    return fighter;
                }
            }
            return NONE;
        }

        boolean isDown(int fighter) {
            return rows.get(fighter, LIFE) == 0;
        }

        boolean canAct(int fighter) {
            return !isDown(fighter) && conditions.sumOf(fighter, STUN) == 0
                && conditions.sumOf(fighter, SLEEP) == 0;
        }

        boolean areFoes(int one, int other) {
            return rows.get(one, SIDE) != rows.get(other, SIDE);
        }

        int numberDown() {
            int down = 0;
            for (int fighter = 0; fighter < rows.used(); fighter++) {
                if (isDown(fighter)) {
                    down++;
                }
            }
            return down;
        }

        int livesOf(int side) {
            int sum = 0;
            for (int fighter = 0; fighter < rows.used(); fighter++) {
                if (rows.get(fighter, SIDE) == side) {
                    sum += rows.get(fighter, LIFE);
                }
            }
            return sum;
        }

        void moveTo(int fighter, int cell) {
            rows.set(fighter, CELL, cell);
            journal.write(MOVED, fighter, cell);
        }

        /** Harms with marks and shields; returns what the life lost. */
        int hurt(int fighter, int n) {
            return lose(fighter, n + conditions.sumOf(fighter, MARK) - conditions.sumOf(fighter, SHIELD));
        }

        /** Harms without marks and shields; one that is down has nothing left to lose. */
        private int lose(int fighter, int n) {
            int life = rows.get(fighter, LIFE);
            int lost = Math.min(life, n);
            if (lost <= 0) {
                return 0;
            }
            rows.set(fighter, LIFE, life - lost);
            harm += lost;
            journal.write(HARMED, fighter, lost);
            if (lost == life) {
                conditions.endAllOf(fighter);
            } else {
                conditions.endHarmedOf(fighter);
            }
            return lost;
        }

        void sufferPoisons(int fighter) {
            int poisons = conditions.listPoisoners(fighter);
            for (int i = 0; i < poisons; i++) {
                lose(fighter, conditions.poisonBy(i, fighter));
            }
        }

        /** Returns what the life gained. */
        int mend(int fighter, int n) {
            int life = rows.get(fighter, LIFE);
            int gained = Math.min(n, rows.get(fighter, MOST) - life);
            if (gained <= 0) {
                return 0;
            }
            rows.set(fighter, LIFE, life + gained);
            mended += gained;
            journal.write(MENDED, fighter, gained);
            return gained;
        }

        void spend(int fighter, int resource, int amount) {
            if (amount > 0) {
                rows.set(fighter, AMOUNT + resource, rows.get(fighter, AMOUNT + resource) - amount);
                journal.write(SPENT, fighter, 10 * resource + amount);
            }
        }

        private void refill(int fighter, int resource) {
            int most = rows.get(fighter, FULL_AMOUNT + resource);
            int regained = most - rows.get(fighter, AMOUNT + resource);
            if (regained > 0) {
                rows.set(fighter, AMOUNT + resource, most);
                journal.write(REGAINED, fighter, 10 * resource + regained);
            }
        }

        int restShort(int fighter) {
            int gained = isDown(fighter) ? 0 : mend(fighter, (rows.get(fighter, MOST) + 1) / 2);
            refill(fighter, 0);
            return gained;
        }

        int restLong(int fighter) {
            int gained = mend(fighter, rows.get(fighter, MOST));
            for (int resource = 0; resource < RESOURCES; resource++) {
                refill(fighter, resource);
            }
            return gained;
        }

        void copyFrom(Fighters other) {
            rows.copyRows(other.rows);
            harm = other.harm;
            mended = other.mended;
        }
    }

    /** The order of turns and the turn that goes on; the round is 0 without an encounter. */
    private static final class Encounter {
        private final Table order = new Table(MOST_FIGHTERS, 1, 0);
        private final Fighters fighters;
        private final Conditions conditions;
        private final Journal journal;
        private int round;
        private int place;
        private int steps;
        private boolean acted;
        private int opened;
        private int turns;
        private int acts;

        Encounter(Fighters fighters, Conditions conditions, Journal journal) {
            this.fighters = fighters;
            this.conditions = conditions;
            this.journal = journal;
        }

        boolean isOn() {
            return round > 0;
        }

        int current() {
            return order.get(place, 0);
        }

        int atPlace(int wanted) {
            return order.holds(wanted) ? order.get(wanted, 0) : ABSENT;
        }

        int placeOf(int fighter) {
            for (int i = 0; i < order.used(); i++) {
                if (order.get(i, 0) == fighter) {
                    return i;
                }
            }
            return ABSENT;
        }

        /** Those that were added later have the numbers behind all that are in the order. */
        int inOrder(int i) {
            return order.holds(i) ? order.get(i, 0) : i;
        }

        void open(int seed) {
            int z = seed;
            for (int fighter = 0; fighter < fighters.size(); fighter++) {
                z = z * 1103515245 + 12345;
                int draw = 1 + (z >>> 16) % 20;
                fighters.put(fighter, Fighters.SCORE, fighters.at(fighter, Fighters.BONUS) + draw);
                insert(fighter);
            }
            round = 1;
            place = 0;
            opened++;
        }

        private void insert(int fighter) {
            int free = order.append();
            while (free > 0 && isAhead(fighter, order.get(free - 1, 0))) {
                order.copyRow(free - 1, free);
                free--;
            }
            order.set(free, 0, fighter);
        }

        private boolean isAhead(int one, int other) {
            int byScore = fighters.at(one, Fighters.SCORE) - fighters.at(other, Fighters.SCORE);
            int byBonus = fighters.at(one, Fighters.BONUS) - fighters.at(other, Fighters.BONUS);
            return byScore > 0 || byScore == 0 && byBonus > 0;
        }

        void startTurn() {
            steps = 0;
            acted = false;
            turns++;
            journal.write(TURN_BEGAN, current(), round);
            conditions.countSourceTurn(current());
            fighters.sufferPoisons(current());
        }

        void leaveTurn() {
            journal.write(TURN_ENDED, current(), round);
            conditions.countTurnEnd(current());
            place++;
            if (place >= order.used()) {
                place = 0;
                round++;
            }
        }

        boolean comesLater(int other) {
            return placeOf(other) > place;
        }

        /** Puts the fighter whose turn it is behind a later one; its place goes to the one that was next. */
        void putBehind(int other) {
            int fighter = current();
            int goal = placeOf(other);
            for (int i = place; i < goal; i++) {
                order.copyRow(i + 1, i);
            }
            order.set(goal, 0, fighter);
        }

        void act(int number) {
            acted = true;
            acts++;
            journal.write(ACTED, current(), number);
        }

        void close() {
            round = 0;
            order.cut(0);
            for (int fighter = 0; fighter < fighters.size(); fighter++) {
                fighters.put(fighter, Fighters.SCORE, ABSENT);
            }
            conditions.endOfEncounter();
        }

        void copyFrom(Encounter other) {
            order.copyRows(other.order);
            round = other.round;
            place = other.place;
            steps = other.steps;
            acted = other.acted;
            opened = other.opened;
            turns = other.turns;
            acts = other.acts;
        }
    }

    /** All that a change can alter and a snapshot contains. */
    private static final class State {
        private final Journal journal;
        private final Conditions conditions;
        private final Fighters fighters;
        private final Encounter encounter;
        private final Table walls = new Table(CELLS, 1, CELLS);
        private final Table powers = new Table(Tape.POWERS, Tape.WIDTH, Tape.POWERS);
        private int rests;

        State() {
            Journal told = new Journal();
            Conditions made = new Conditions(told);
            Fighters added = new Fighters(made, told);
            this.journal = told;
            this.conditions = made;
            this.fighters = added;
            this.encounter = new Encounter(added, made, told);
        }

        boolean isFree(int cell) {
            return walls.get(cell, 0) == 0 && fighters.standingOn(cell) == NONE;
        }

        int numberOfWalls() {
            int found = 0;
            for (int cell = 0; cell < CELLS; cell++) {
                found += walls.get(cell, 0);
            }
            return found;
        }

        void become(State other) {
            journal.copyFrom(other.journal);
            conditions.copyFrom(other.conditions);
            fighters.copyFrom(other.fighters);
            encounter.copyFrom(other.encounter);
            walls.copyRows(other.walls);
            powers.copyRows(other.powers);
            rests = other.rests;
        }
    }

    /** The states ahead of the latest changes; a new one takes the row of the oldest one. */
    private static final class Changes {
        static final int MOST = 6;

        private final State[] earlier = new State[MOST];
        private int size;
        private int next;

        Changes() {
            for (int i = 0; i < earlier.length; i++) {
                earlier[i] = new State();
            }
        }

        void keep(State now) {
            State row = next >= 0 && next < earlier.length ? earlier[next] : null;
            if (row != null) {
                row.become(now);
                next = (next + 1) % MOST;
                size = Math.min(MOST, size + 1);
            }
        }

        void takeBack(State now) {
            int latest = (next + MOST - 1) % MOST;
            State row = latest >= 0 && latest < earlier.length ? earlier[latest] : null;
            if (row != null && size > 0) {
                now.become(row);
                next = latest;
                size--;
            }
        }

        void forget() {
            size = 0;
        }
    }

    /** The bytes that were fed, and the power that was read from them latest. */
    private static final class Tape {
        static final int MOST = 40;
        static final int POWERS = 4, MOST_EFFECTS = 4;
        static final int SHAPE = 0, SIZE = 1, EFFECTS = 2, RESOURCE = 3, COST = 4;
        static final int FIRST_EFFECT = 5, EFFECT_WIDTH = 5;
        static final int WIDTH = FIRST_EFFECT + MOST_EFFECTS * EFFECT_WIDTH;

        private final int[] bytes = new int[MOST];
        private final int[] parts = new int[WIDTH];
        private int length;
        private int position;

        boolean hasRoomFor(int n) {
            return length + n <= MOST;
        }

        void append(int sign) {
            if (length >= 0 && length < bytes.length) {
                bytes[length] = sign;
                length++;
            }
        }

        void clear() {
            length = 0;
        }

        int part(int column) {
            return column >= 0 && column < parts.length ? parts[column] : 0;
        }

        /** If the text is wrong, the position is the error position then. */
        boolean readPower() {
            position = 0;
            Arrays.fill(parts, 0);
            return readShape() && readDigit(SIZE, 0, MOST_SIZE) && skip(':')
                && readEffects() && readCost() && position == length;
        }

        private int peek() {
            boolean there = position >= 0 && position < length && position < bytes.length;
            return there ? bytes[position] : -1;
        }

        private boolean skip(int sign) {
            boolean there = peek() == sign;
            if (there) {
                position++;
            }
            return there;
        }

        private void setPart(int column, int number) {
            if (column >= 0 && column < parts.length) {
                parts[column] = number;
            }
        }

        private boolean readDigit(int column, int least, int most) {
            int digit = peek() - '0';
            boolean right = digit >= least && digit <= most;
            if (right) {
                setPart(column, digit);
                position++;
            }
            return right;
        }

        private boolean readShape() {
            int letter = peek();
            int shape = letter == 's' ? SQUARE : letter == 'd' ? DIAMOND
                : letter == 'c' ? CONE : letter == 'l' ? LINE : -1;
            setPart(SHAPE, shape);
            return shape >= 0 && skip(letter);
        }

        /** A fifth effect is left unread: then its comma is a byte too many. */
        private boolean readEffects() {
            for (int effect = 0; effect < MOST_EFFECTS; effect++) {
                if (effect > 0 && !skip(',')) {
                    return true;
                }
                if (!readEffect(FIRST_EFFECT + effect * EFFECT_WIDTH)) {
                    return false;
                }
                setPart(EFFECTS, effect + 1);
            }
            return true;
        }

        private boolean readEffect(int start) {
            int letter = peek();
            setPart(start, letter);
            if (letter == 'h' || letter == 'm') {
                return skip(letter) && readNumber(start + 1);
            }
            return letter == 'k' && skip(letter) && readDigit(start + 1, 0, KINDS - 1)
                && readDigit(start + 2, 1, 9) && readDigit(start + 3, 0, ENDS - 1)
                && readDigit(start + 4, 1, 9);
        }

        private boolean readNumber(int column) {
            if (!readDigit(column, 0, 9)) {
                return false;
            }
            int tens = part(column);
            if (readDigit(column, 0, 9)) {
                setPart(column, 10 * tens + part(column));
            }
            return true;
        }

        private boolean readCost() {
            if (!skip('$')) {
                return true;
            }
            return readDigit(RESOURCE, 0, RESOURCES - 1) && readDigit(COST, 1, MOST_AMOUNT);
        }
    }

    /** Measures ways over the grid, in rows that are made once. */
    private static final class Ways {
        private static final int UNSEEN = -1, CLOSED = -2;

        private final int[] steps = new int[CELLS];
        private final int[] queue = new int[CELLS];
        private int reached;

        /** The steps of the shortest way of a fighter to a cell, or -5 if there is none. */
        int measure(State state, int walker, int goal) {
            reached = 0;
            markClosed(state, walker);
            reach(state.fighters.at(walker, Fighters.CELL), 0);
            for (int i = 0; i < reached && i < queue.length; i++) {
                reachNeighbors(queue[i]);
            }
            boolean there = goal >= 0 && goal < steps.length && steps[goal] >= 0;
            return there ? steps[goal] : ABSENT;
        }

        private void markClosed(State state, int walker) {
            for (int cell = 0; cell < steps.length; cell++) {
                steps[cell] = state.walls.get(cell, 0) == 1 ? CLOSED : UNSEEN;
            }
            for (int other = 0; other < state.fighters.size(); other++) {
                int cell = state.fighters.at(other, Fighters.CELL);
                boolean bars = state.fighters.areFoes(walker, other) && !state.fighters.isDown(other);
                if (bars && cell >= 0 && cell < steps.length) {
                    steps[cell] = CLOSED;
                }
            }
        }

        private void reach(int cell, int count) {
            boolean isNew = cell >= 0 && cell < steps.length && steps[cell] == UNSEEN;
            if (isNew && reached >= 0 && reached < queue.length) {
                steps[cell] = count;
                queue[reached] = cell;
                reached++;
            }
        }

        private void reachNeighbors(int cell) {
            int count = cell >= 0 && cell < steps.length ? steps[cell] + 1 : 0;
            for (int direction = 0; direction < DIRECTIONS; direction++) {
                int column = cell % COLUMNS + columnStep(direction);
                int row = cell / COLUMNS + rowStep(direction);
                if (column >= 0 && column < COLUMNS && row >= 0 && row < CELLS / COLUMNS) {
                    reach(COLUMNS * row + column, count);
                }
            }
        }
    }
}
