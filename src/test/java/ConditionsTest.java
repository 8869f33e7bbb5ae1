/** Promise 17, and what the document says under Conditions: how they are made and how they end. */
public final class ConditionsTest {
    private static final int HERO_FIRST = Due.seed(20, 1, 1, 1);

    public static void main(String[] args) {
        selectors();
        madeAgain();
        endWithTurns();
        endWithTurnsOfTheSource();
        endByHarm();
        sleepEndsByHarm();
        endWhenDown();
        poisonHarms();
        poisonEndsByPoison();
        poisonDowns();
        endWithTheEncounter();
        whoCanAct();
        sourcesThatAreDown();
        Due.end("ConditionsTest");
    }

    /** A hero on 0 that comes first, and a foe on 9. */
    private static EncounterLedger pair(String... powers) {
        EncounterLedger x = new EncounterLedger();
        for (int power = 0; power < powers.length; power++) {
            Due.read(x, power, powers[power]);
        }
        x.add(0, 0, 50, 9, 9);
        x.add(1, 9, 50, -5, 9);
        return x;
    }

    private static void castOn(EncounterLedger x, int power, int target) {
        Due.holds("a cast that goes", x.cast(power, x.fighter(target, 1), 0) > 0);
    }

    private static void condition(EncounterLedger x, int i, int... due) {
        for (int what = 0; what < due.length; what++) {
            Due.is("condition(" + i + ", " + what + ")", x.condition(i, what), due[what]);
        }
    }

    private static void selectors() {
        EncounterLedger x = pair("s0:k4731");
        Due.is("none", x.condition(0, 0), EncounterLedger.NONE);
        x.begin(HERO_FIRST);
        castOn(x, 0, 1);
        Due.is("how many", x.condition(-1, 99), 1);
        condition(x, 0, 4, 1, 0, 7, 3, 1);
        Due.is("what -1", x.condition(0, -1), EncounterLedger.NONE);
        Due.is("what 6", x.condition(0, 6), EncounterLedger.NONE);
        Due.is("i 1", x.condition(1, 0), EncounterLedger.NONE);
        Due.is("i -2", x.condition(-2, 0), EncounterLedger.NONE);
        Due.is("number of its conditions", x.fighter(1, 9), 1);
        Due.is("number of others", x.fighter(0, 9), 0);
    }

    private static void madeAgain() {
        EncounterLedger x = pair("s0:k4209,k0109", "s0:k4532", "s0:k4101");
        x.begin(HERO_FIRST);
        castOn(x, 0, 1);
        Due.nextTurnOf(x, 0);
        condition(x, 0, 4, 1, 0, 2, 0, 8);
        castOn(x, 1, 1);
        condition(x, 0, 4, 1, 0, 5, 3, 8);
        condition(x, 1, 0, 1, 0, 1, 0, 8);
        Due.is("how many", x.condition(-1, 0), 2);
        Due.nextTurnOf(x, 0);
        castOn(x, 2, 1);
        condition(x, 0, 4, 1, 0, 5, 0, 8);
        Due.is("made", x.replayed(1, 5), 4);
    }

    private static void endWithTurns() {
        EncounterLedger x = pair("s0:k4102", "s0:k2101");
        x.begin(HERO_FIRST);
        castOn(x, 0, 1);
        x.endTurn();
        condition(x, 0, 4, 1, 0, 1, 0, 2);
        x.endTurn();
        condition(x, 0, 4, 1, 0, 1, 0, 1);
        castOn(x, 1, 0);
        Due.is("two", x.condition(-1, 0), 2);
        x.endTurn();
        Due.is("ended with the own turn", x.condition(-1, 0), 1);
        int before = x.entry(-1, 0);
        x.endTurn();
        Due.is("ended with the second turn", x.condition(-1, 0), 0);
        Due.is("first the end of the turn", x.entry(before, 0), 9);
        Due.is("then that of the condition", x.entry(before + 1, 0), 4);
        Due.is("its fighter", x.entry(before + 1, 1), 1);
        Due.is("its kind", x.entry(before + 1, 2), 4);
        Due.is("then the next turn", x.entry(before + 2, 0), 8);
    }

    private static void endWithTurnsOfTheSource() {
        EncounterLedger x = pair("s0:k4112");
        x.begin(HERO_FIRST);
        castOn(x, 0, 1);
        x.endTurn();
        x.endTurn();
        condition(x, 0, 4, 1, 0, 1, 1, 1);
        x.endTurn();
        int before = x.entry(-1, 0);
        x.endTurn();
        Due.is("ended", x.condition(-1, 0), 0);
        Due.is("end of the turn of 1", x.entry(before, 0), 9);
        Due.is("begin of the turn of 0", x.entry(before + 1, 0), 8);
        Due.is("end of the condition", x.entry(before + 2, 0), 4);
        Due.is("that 1 had", x.entry(before + 2, 1), 1);
    }

    private static void endByHarm() {
        EncounterLedger x = pair("s0:k2929,k3129", "s0:h9", "s0:k4121,h0", "s0:h10");
        x.begin(HERO_FIRST);
        castOn(x, 0, 0);
        x.endTurn();
        castOn(x, 1, 0);
        Due.is("harm of 0 ends none", x.condition(-1, 0), 2);
        x.endTurn();
        x.endTurn();
        int before = x.entry(-1, 0);
        castOn(x, 3, 0);
        Due.is("harm of 1 ends both", x.condition(-1, 0), 0);
        int[] kinds = {10, 1, 4, 4};
        int[] numbers = {13, 1, 2, 3};
        for (int i = 0; i < kinds.length; i++) {
            Due.is("kind", x.entry(before + i, 0), kinds[i]);
            Due.is("number", x.entry(before + i, 2), numbers[i]);
        }
        x.endTurn();
        castOn(x, 2, 1);
        Due.is("the mark does the harm that ends it", x.fighter(1, 2), 49);
        Due.is("ended", x.condition(-1, 0), 0);
    }

    private static void sleepEndsByHarm() {
        EncounterLedger x = pair("s0:k5139,k1139", "s0:h1");
        x.begin(HERO_FIRST);
        castOn(x, 0, 1);
        Due.is("asleep", x.fighter(1, 35), 1);
        Due.nextTurnOf(x, 0);
        castOn(x, 1, 1);
        Due.is("awake", x.fighter(1, 35), 0);
        Due.is("but stunned still", x.fighter(1, 31), 1);
        EncounterLedger y = pair("s0:k5139,k0139");
        y.begin(HERO_FIRST);
        castOn(y, 0, 1);
        y.endTurn();
        Due.is("poison wakes", y.fighter(1, 35), 0);
        Due.is("it can act", y.fighter(1, 6), 1);
    }

    private static void endWhenDown() {
        EncounterLedger x = pair("s0:k4139,k0129,k1109,k5119", "s0:h99");
        x.begin(HERO_FIRST);
        castOn(x, 0, 1);
        x.finish();
        x.rest(0);
        x.begin(HERO_FIRST);
        castOn(x, 0, 1);
        int before = x.entry(-1, 0);
        x.endTurn();
        Due.nextTurnOf(x, 0);
        before = x.entry(-1, 0);
        castOn(x, 1, 1);
        Due.is("no conditions left", x.condition(-1, 0), 0);
        Due.is("the cast", x.entry(before, 0), 10);
        Due.is("the harm", x.entry(before + 1, 0), 1);
        Due.is("the first end", x.entry(before + 2, 0), 4);
        Due.is("of the first condition", x.entry(before + 2, 2), 4);
        Due.is("then the others in their order", x.entry(before + 3, 2), 1);
        Due.is("down", x.account(1), 1);
    }

    private static void poisonHarms() {
        EncounterLedger x = new EncounterLedger();
        Due.read(x, 0, "s0:k0339,k2939");
        Due.read(x, 1, "s0:k0239,k4939");
        Due.read(x, 2, "s0:k2939");
        x.add(0, 0, 50, 9, 9);
        x.add(1, 9, 50, -5, 9);
        x.add(0, 5, 50, 8, 9);
        x.begin(Due.seed(20, 1, 19));
        castOn(x, 0, 1);
        x.endTurn();
        castOn(x, 1, 1);
        int before = x.entry(-1, 0);
        x.endTurn();
        Due.is("both poisons, without marks", x.fighter(1, 2), 45);
        Due.is("values", x.fighter(1, 30), 5);
        Due.is("the turn ahead of the harm", x.entry(before + 1, 0), 8);
        Due.is("the first harm", x.entry(before + 2, 2), 3);
        Due.is("the second harm", x.entry(before + 3, 2), 2);
        castOn(x, 2, 1);
        Due.nextTurnOf(x, 1);
        Due.is("without shields", x.fighter(1, 2), 40);
        Due.is("counts of end 3 stay", x.condition(0, 5), 9);
    }

    private static void poisonEndsByPoison() {
        EncounterLedger x = new EncounterLedger();
        Due.read(x, 0, "s0:k0339");
        Due.read(x, 1, "s0:k0229");
        x.add(0, 0, 50, 9, 9);
        x.add(1, 9, 50, -5, 9);
        x.add(0, 5, 50, 8, 9);
        x.begin(Due.seed(20, 1, 19));
        castOn(x, 1, 1);
        x.endTurn();
        castOn(x, 0, 1);
        int before = x.entry(-1, 0);
        x.endTurn();
        Due.is("the first one ends itself, the second harms", x.fighter(1, 2), 45);
        int[] kinds = {9, 8, 1, 4, 1};
        for (int i = 0; i < kinds.length; i++) {
            Due.is("kind of entry " + i, x.entry(before + i, 0), kinds[i]);
        }
        Due.nextTurnOf(x, 0);
        castOn(x, 1, 1);
        Due.nextTurnOf(x, 1);
        Due.is("the second one has ended by the first", x.fighter(1, 2), 42);
        Due.is("one left", x.condition(-1, 0), 1);
    }

    private static void poisonDowns() {
        EncounterLedger x = new EncounterLedger();
        Due.read(x, 0, "s0:k0339");
        x.add(0, 0, 50, 9, 9);
        x.add(1, 9, 2, -5, 9);
        x.add(0, 5, 50, 8, 9);
        x.begin(Due.seed(20, 1, 19));
        castOn(x, 0, 1);
        x.endTurn();
        castOn(x, 0, 1);
        Due.is("the turn goes on", x.endTurn(), 1);
        Due.is("whose turn", x.turn(1), 1);
        Due.is("down", x.fighter(1, 2), 0);
        Due.is("harm is what the life lost", x.account(4), 2);
        Due.is("no conditions", x.condition(-1, 0), 0);
        Due.refused("it cannot move", x, x.move(8), 3);
        Due.is("one harm alone", x.replayed(1, 1), 1);
    }

    private static void endWithTheEncounter() {
        EncounterLedger x = pair("s0:k0109,k1119,k4129,k5139");
        x.begin(HERO_FIRST);
        castOn(x, 0, 1);
        int before = x.entry(-1, 0);
        x.finish();
        Due.is("ends 2 and 3 stay", x.condition(-1, 0), 2);
        condition(x, 0, 4, 1, 0, 1, 2, 9);
        condition(x, 1, 5, 1, 0, 1, 3, 9);
        Due.is("first poison", x.entry(before, 2), 0);
        Due.is("then stun", x.entry(before + 1, 2), 1);
        Due.is("entries", x.entry(-1, 0), before + 2);
        x.rest(0);
        Due.is("a short rest ends none", x.condition(-1, 0), 2);
        x.rest(1);
        Due.is("a long one ends end 3", x.condition(-1, 0), 1);
        condition(x, 0, 4, 1, 0, 1, 2, 9);
    }

    private static void whoCanAct() {
        for (int kind = 0; kind < 6; kind++) {
            EncounterLedger x = pair("s5:k" + kind + "139");
            x.begin(HERO_FIRST);
            int target = kind == 2 || kind == 3 ? 0 : 1;
            castOn(x, 0, target);
            Due.is("fighter(6) with kind " + kind, x.fighter(target, 6), kind == 1 || kind == 5 ? 0 : 1);
            Due.is("sum of kind " + kind, x.fighter(target, 30 + kind), 1);
        }
    }

    private static void sourcesThatAreDown() {
        EncounterLedger x = pair("s0:k4112", "s0:h99");
        x.begin(HERO_FIRST);
        castOn(x, 0, 1);
        x.endTurn();
        castOn(x, 1, 0);
        Due.is("it stays", x.condition(-1, 0), 1);
        x.endTurn();
        condition(x, 0, 4, 1, 0, 1, 1, 1);
        x.endTurn();
        x.endTurn();
        Due.is("turns of one down count", x.condition(-1, 0), 0);
    }
}
