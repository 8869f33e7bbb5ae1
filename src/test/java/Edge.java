import java.util.ArrayList;
import java.util.Arrays;
import java.util.List;

/** What the tests of single sentences need: each one quotes the words of the document that it is about. */
final class Edge {
    static final int NONE = EncounterLedger.NONE;
    static final int BAD = EncounterLedger.BAD;
    static final int STATE = EncounterLedger.STATE;
    static final int FULL = EncounterLedger.FULL;
    static final int MOST_CALLS = 512;

    /** Draws by which a hero with the bonus 9 comes ahead of foes with the bonus -5. */
    static final int HERO_FIRST = Due.seed(20, 1, 1, 1);

    private static final List<String[]> QUOTES = new ArrayList<>();

    interface Setup {
        void on(EncounterLedger x);
    }

    interface Call {
        int on(EncounterLedger x);
    }

    private Edge() {
    }

    /** Runs the test of these words, which have to stand in this section of the document. */
    static void says(String section, String words, Runnable test) {
        QUOTES.add(new String[] {section, words});
        Due.about(section + ": " + words);
        Due.holds("the document says so", Document.says(section, words));
        test.run();
        Due.about("");
    }

    static void everyClauseHasATest() {
        for (String clause : Document.untouched(QUOTES)) {
            Due.holds("there is a test of \"" + clause + "\"", false);
        }
        System.out.println(QUOTES.size() + " quotes of the document were tested");
    }

    /** Numbers beyond a range: next to it and far away. */
    static int[] outside(int least, int most) {
        return new int[] {least - 1, most + 1, Integer.MIN_VALUE, Integer.MAX_VALUE};
    }

    /** A hero of side 0 on 44 and a foe of side 1 on 45, each with the life 50 and the speed 4. */
    static void pair(EncounterLedger x) {
        x.add(0, 44, 50, 9, 4);
        x.add(1, 45, 50, -5, 4);
    }

    /** The pair in an encounter; it is the turn of the hero. */
    static void fight(EncounterLedger x) {
        pair(x);
        x.begin(HERO_FIRST);
    }

    static EncounterLedger paired(String... powers) {
        EncounterLedger x = new EncounterLedger();
        read(x, powers);
        pair(x);
        return x;
    }

    static EncounterLedger fighting(String... powers) {
        EncounterLedger x = paired(powers);
        x.begin(HERO_FIRST);
        return x;
    }

    static void read(EncounterLedger x, String... powers) {
        for (int power = 0; power < powers.length; power++) {
            Due.read(x, power, powers[power]);
        }
    }

    /** The caster casts the power on the cell of a fighter. */
    static int castOn(EncounterLedger x, int power, int fighter) {
        return x.cast(power, x.fighter(fighter, 1), 0);
    }

    /** The numbers of the entries from this one on: kind, fighter, number, kind, .. */
    static void entries(EncounterLedger x, int from, int... due) {
        for (int i = 0; i < due.length; i++) {
            Due.is("entry(" + (from + i / 3) + ", " + i % 3 + ")", x.entry(from + i / 3, i % 3), due[i]);
        }
        Due.is("number of entries", x.entry(-1, 0), from + due.length / 3);
    }

    static void order(EncounterLedger x, int... due) {
        for (int place = 0; place < due.length; place++) {
            Due.is("turn(" + (10 + place) + ")", x.turn(10 + place), due[place]);
        }
        Due.is("turn(" + (10 + due.length) + ")", x.turn(10 + due.length), -5);
    }

    static void condition(EncounterLedger x, int i, int... due) {
        for (int what = 0; what < due.length; what++) {
            Due.is("condition(" + i + ", " + what + ")", x.condition(i, what), due[what]);
        }
    }

    /** The call has to answer this code and to leave all as it is on a ledger without this call. */
    static void error(String name, Setup setup, Call call, int code) {
        EncounterLedger without = new EncounterLedger();
        setup.on(without);
        refuse(name, setup, call, code, without.reason());
    }

    /** The call has to answer STATE with this reason and to leave all but the reason as it is. */
    static void state(String name, Setup setup, Call call, int reason) {
        refuse(name, setup, call, STATE, reason);
    }

    private static void refuse(String name, Setup setup, Call call, int code, int reason) {
        EncounterLedger without = new EncounterLedger();
        setup.on(without);
        EncounterLedger with = new EncounterLedger();
        setup.on(with);
        Due.is(name, call.on(with), code);
        Due.is("reason() behind " + name, with.reason(), reason);
        Due.holds(name + " leaves all unchanged", Arrays.equals(look(without), look(with)));
        Due.is("tape behind " + name, with.count(0), without.count(0));
        Due.is("changes behind " + name, with.count(1), without.count(1));
    }

    /** Both ledgers have to answer all alike, but for the reason, the tape and the changes. */
    static void alike(String what, EncounterLedger one, EncounterLedger other) {
        Due.holds(what, Arrays.equals(look(one), look(other)));
    }

    /** What the answers tell of a ledger but for its reason, tape and changes, within the calls of one object. */
    static int[] look(EncounterLedger x) {
        int[] told = new int[MOST_CALLS];
        int n = 0;
        int fighters = x.account(0);
        for (int fighter = 0; fighter < fighters; fighter++) {
            for (int what = 0; what < 36; what++) {
                boolean tells = what < 13 || what >= 20 && what < 23 || what >= 30;
                n = tells ? put(told, n, x.fighter(fighter, what)) : n;
            }
        }
        for (int what = 0; what < 10 + fighters; what++) {
            n = what < 4 || what > 9 ? put(told, n, x.turn(what)) : n;
        }
        for (int what = 0; what < 11; what++) {
            n = put(told, n, x.account(what));
        }
        n = put(told, n, x.count(2));
        int conditions = x.condition(-1, 0);
        for (int i = 0; i < conditions && i < 12; i++) {
            for (int what = 0; what < 6; what++) {
                n = put(told, n, x.condition(i, what));
            }
        }
        n = put(told, n, conditions);
        int entries = x.entry(-1, 0);
        for (int i = Math.max(0, entries - 8); i < entries; i++) {
            for (int what = 0; what < 3; what++) {
                n = put(told, n, x.entry(i, what));
            }
        }
        n = put(told, n, entries);
        for (int cell = 33; x.turn(0) > 0 && cell < 57; cell += 2) {
            n = put(told, n, x.way(cell));
        }
        return Arrays.copyOf(told, n);
    }

    private static int put(int[] told, int n, int number) {
        told[n] = number;
        return n + 1;
    }
}
