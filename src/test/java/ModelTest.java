import java.util.ArrayList;
import java.util.List;
import java.util.Random;

/** All promises: runs of up to 512 calls, drawn from fixed seeds, against the plain model. */
public final class ModelTest {
    private static final int RUNS = 1500;
    private static final int CALLS = 512;
    private static final int[] WILD = {-1, -2, -5, 8, 9, 10, 99, 100, 101, 300, 1000, -100,
        Integer.MAX_VALUE, Integer.MIN_VALUE, Integer.MAX_VALUE - 9, Integer.MIN_VALUE + 99};

    private final Random random;
    private final EncounterLedger ledger = new EncounterLedger();
    private final PlainModel model = new PlainModel();
    private final List<String> calls = new ArrayList<>();
    private final int seed;
    private final int wildness;
    private final int fighters;
    private boolean wrong = false;

    private ModelTest(int seed) {
        this.seed = seed;
        this.random = new Random(seed);
        this.wildness = seed % 4 == 0 ? 5 : 60;
        this.fighters = 1 + random.nextInt(8);
    }

    public static void main(String[] args) {
        int runs = args.length > 0 ? Integer.parseInt(args[0]) : RUNS;
        for (int seed = 0; seed < runs; seed++) {
            new ModelTest(seed).run();
        }
        Due.end("ModelTest");
    }

    private void run() {
        int untilLook = seed % 2 == 0 ? CALLS : 40 + random.nextInt(300);
        for (int i = 0; i < fighters && random.nextInt(40) > 0; i++) {
            step(0);
        }
        while (calls.size() < untilLook && !wrong) {
            step(random.nextInt(100));
        }
        lookAtMuch();
        Due.holds("run " + seed + " as the model", !wrong);
        if (wrong) {
            calls.forEach(System.out::println);
        }
    }

    private int in(int least, int most) {
        return random.nextInt(wildness) == 0 ? WILD[random.nextInt(WILD.length)]
            : least + random.nextInt(most - least + 1);
    }

    private int someCell() {
        int near = 10 * in(2, 5) + in(2, 5);
        return random.nextInt(4) == 0 ? in(0, 99) : near;
    }

    private int someFighter() {
        return in(0, fighters - 1);
    }

    /** What later calls answer is free. */
    private void due(String call, int got, int want) {
        if (calls.size() < CALLS && !wrong) {
            wrong = got != want;
            calls.add(call + " = " + got + (wrong ? ", due is " + want : ""));
        }
    }

    private void step(int roll) {
        int[] upTo = {2, 4, 6, 8, 10, 24, 27, 39, 52, 58, 61, 71};
        int kind = 0;
        while (kind < upTo.length && roll >= upTo[kind]) {
            kind++;
        }
        switch (kind) {
            case 0 -> add();
            case 1 -> wall();
            case 2 -> amount();
            case 3 -> begin();
            case 4 -> finish();
            case 5 -> due("endTurn()", ledger.endTurn(), model.endTurn());
            case 6 -> delay();
            case 7 -> move();
            case 8 -> cast();
            case 9 -> strike();
            case 10 -> rest();
            case 11 -> text();
            default -> lookOrUndo(random.nextInt(14));
        }
    }

    private void add() {
        int side = in(0, 1);
        int cell = someCell();
        int life = random.nextInt(2) == 0 ? in(1, 12) : in(1, 99);
        int bonus = in(-5, 9);
        int speed = in(1, 9);
        due("add(" + side + ", " + cell + ", " + life + ", " + bonus + ", " + speed + ")",
            ledger.add(side, cell, life, bonus, speed), model.add(side, cell, life, bonus, speed));
    }

    private void wall() {
        int cell = someCell();
        due("wall(" + cell + ")", ledger.wall(cell), model.wall(cell));
    }

    private void amount() {
        int fighter = someFighter();
        int resource = in(0, 2);
        int amount = in(0, 9);
        due("amount(" + fighter + ", " + resource + ", " + amount + ")",
            ledger.amount(fighter, resource, amount), model.amount(fighter, resource, amount));
    }

    private void begin() {
        int seedOfDraws = random.nextInt();
        due("begin(" + seedOfDraws + ")", ledger.begin(seedOfDraws), model.begin(seedOfDraws));
    }

    private void finish() {
        if (random.nextInt(3) == 0) {
            due("finish()", ledger.finish(), model.finish());
        }
    }

    private void delay() {
        int other = someFighter();
        due("delay(" + other + ")", ledger.delay(other), model.delay(other));
    }

    private void move() {
        int cell = someCell();
        due("move(" + cell + ")", ledger.move(cell), model.move(cell));
    }

    private void cast() {
        int power = in(0, 3);
        int cell = someCell();
        int direction = in(0, 3);
        due("cast(" + power + ", " + cell + ", " + direction + ")",
            ledger.cast(power, cell, direction), model.cast(power, cell, direction));
    }

    private void strike() {
        for (int other = 0; other < (random.nextBoolean() ? fighters : 1); other++) {
            int one = random.nextInt(10) == 0 ? someFighter() : other;
            due("strike(" + one + ")", ledger.strike(one), model.strike(one));
        }
    }

    private void rest() {
        int isLong = in(0, 1);
        due("rest(" + isLong + ")", ledger.rest(isLong), model.rest(isLong));
    }

    private String effect() {
        int sort = random.nextInt(7);
        if (sort < 2) {
            return (sort == 0 ? "h" : "m") + random.nextInt(random.nextBoolean() ? 10 : 100);
        }
        return "k" + random.nextInt(6) + (1 + random.nextInt(random.nextBoolean() ? 2 : 9))
            + random.nextInt(4) + (1 + random.nextInt(random.nextBoolean() ? 2 : 9));
    }

    private String someText() {
        StringBuilder text = new StringBuilder();
        text.append("sdcl".charAt(random.nextInt(4))).append(random.nextInt(6)).append(':').append(effect());
        for (int more = random.nextInt(4); more > 0; more--) {
            text.append(',').append(effect());
        }
        if (random.nextInt(3) == 0) {
            text.append('$').append(random.nextInt(3)).append(1 + random.nextInt(random.nextBoolean() ? 1 : 9));
        }
        if (random.nextInt(4) == 0) {
            int place = random.nextInt(text.length() + 1);
            char sign = "sdclhmk:,$0123456789 x".charAt(random.nextInt(22));
            switch (random.nextInt(4)) {
                case 0 -> text.setLength(place);
                case 1 -> text.insert(place, sign);
                case 2 -> text.append(',').append(effect());
                default -> text.setCharAt(Math.min(place, text.length() - 1), sign);
            }
        }
        return text.toString();
    }

    private void text() {
        String text = someText();
        for (int i = 0; i < text.length(); i += 5) {
            int[] b = new int[5];
            int n = Math.min(5, text.length() - i);
            for (int k = 0; k < n; k++) {
                b[k] = text.charAt(i + k);
            }
            due("feed " + text, ledger.feed(n, b[0], b[1], b[2], b[3], b[4]), model.feed(n, b));
        }
        if (random.nextInt(20) == 0) {
            int n = in(1, 5);
            int[] b = {in(0, 127), in(0, 127), in(0, 127), in(0, 127), in(0, 127)};
            due("feed of anything", ledger.feed(n, b[0], b[1], b[2], b[3], b[4]), model.feed(n, b));
        }
        if (random.nextInt(12) > 0) {
            int power = in(0, 3);
            due("power(" + power + ")", ledger.power(power), model.power(power));
        }
    }

    private void lookOrUndo(int kind) {
        switch (kind) {
            case 0 -> due("back()", ledger.back(), model.back());
            case 1 -> rarelyImageOrUndo();
            case 2 -> rarelyLookAround();
            case 3 -> {
                int i = in(-1, 5);
                int what = in(0, 5);
                due("condition(" + i + ", " + what + ")", ledger.condition(i, what), model.condition(i, what));
            }
            case 4 -> {
                int cell = someCell();
                due("way(" + cell + ")", ledger.way(cell), model.way(cell));
            }
            case 5, 6 -> area();
            case 7 -> {
                int i = in(-1, 320);
                int what = in(0, 2);
                due("entry(" + i + ", " + what + ")", ledger.entry(i, what), model.entry(i, what));
            }
            case 8 -> {
                int one = someFighter();
                int what = in(0, 5);
                due("replayed(" + one + ", " + what + ")", ledger.replayed(one, what), model.replayed(one, what));
            }
            case 9 -> {
                int one = someFighter();
                int what = in(0, 36);
                due("fighter(" + one + ", " + what + ")", ledger.fighter(one, what), model.fighter(one, what));
            }
            case 10 -> {
                int what = in(0, 19);
                due("turn(" + what + ")", ledger.turn(what), model.turn(what));
            }
            case 11 -> {
                int what = in(0, 11);
                due("account(" + what + ")", ledger.account(what), model.account(what));
            }
            case 12 -> {
                int what = in(0, 3);
                due("count(" + what + ")", ledger.count(what), model.count(what));
            }
            default -> due("reason()", ledger.reason(), model.reason());
        }
    }

    private void rarelyImageOrUndo() {
        int roll = random.nextInt(8);
        if (roll < 3) {
            due("image()", ledger.image(), model.image());
        } else if (roll == 3) {
            due("undo()", ledger.undo(), model.undo());
        }
    }

    private void area() {
        int shape = in(0, 3);
        int cell = in(0, 99);
        int direction = in(0, 3);
        int size = in(0, 5);
        int i = in(-1, 12);
        due("area(" + shape + ", " + cell + ", " + direction + ", " + size + ", " + i + ")",
            ledger.area(shape, cell, direction, size, i), model.area(shape, cell, direction, size, i));
    }

    /** A part of all that can be asked, so that many other calls are left to an object. */
    private void lookAround() {
        int one = random.nextInt(fighters);
        for (int what = 0; what < 36; what++) {
            if (what < 13 || what > 29) {
                due("fighter(" + one + ", " + what + ")", ledger.fighter(one, what), model.fighter(one, what));
            }
        }
        int i = random.nextInt(1 + model.condition(-1, 0));
        for (int what = 0; what < 6; what++) {
            due("condition(" + i + ", " + what + ")", ledger.condition(i, what), model.condition(i, what));
        }
        int latest = Math.max(0, Math.min(300, model.entry(-1, 0)) - 6);
        for (int entry = latest; entry < latest + 6; entry++) {
            for (int what = 0; what < 3; what++) {
                due("entry(" + entry + ", " + what + ")", ledger.entry(entry, what), model.entry(entry, what));
            }
        }
        for (int what = 0; what < 11; what++) {
            due("account(" + what + ")", ledger.account(what), model.account(what));
        }
        for (int what = 0; what < 11 + fighters; what++) {
            due("turn(" + what + ")", ledger.turn(what), model.turn(what));
        }
    }

    private void rarelyLookAround() {
        if (random.nextInt(4) == 0) {
            lookAround();
        }
    }

    private void lookAtMuch() {
        lookAround();
        for (int one = 0; one < fighters; one++) {
            for (int what = 0; what < 6; what++) {
                due("replayed(" + one + ", " + what + ")", ledger.replayed(one, what), model.replayed(one, what));
            }
        }
        for (int i = 0; i < Math.min(9, model.condition(-1, 0)); i++) {
            for (int what = 0; what < 6; what++) {
                due("condition(" + i + ", " + what + ")", ledger.condition(i, what), model.condition(i, what));
            }
        }
        for (int cell = random.nextInt(5); cell < 100; cell += 5) {
            due("way(" + cell + ")", ledger.way(cell), model.way(cell));
        }
        for (int i = random.nextInt(7); i < model.entry(-1, 0); i += 3) {
            for (int what = 0; what < 3; what++) {
                due("entry(" + i + ", " + what + ")", ledger.entry(i, what), model.entry(i, what));
            }
        }
    }
}
