/** Promises 10 to 13: strike, feed, power, cast. */
public final class PowersTest {
    public static void main(String[] args) {
        feeds();
        feedRefusals();
        rightTexts();
        wrongTexts();
        everyPrefixAndEveryByte();
        wrongTextKeepsTheEarlierPower();
        strikes();
        strikesThatDoNothing();
        strikeRefusals();
        castRefusals();
        castSpends();
        harmAndMending();
        whomEffectsMeet();
        mendedOnesAreUpAgain();
        effectsOneByOne();
        shapesOfCasts();
        Due.end("PowersTest");
    }

    private static void feeds() {
        EncounterLedger x = new EncounterLedger();
        Due.is("feed", x.feed(1, 's', 0, 0, 0, 0), 1);
        Due.is("feed", x.feed(3, '1', ':', 'h', 99, 99), 4);
        Due.is("feed", x.feed(5, '1', ',', 'm', '1', ','), 9);
        Due.is("bytes", x.count(0), 9);
        Due.is("feed", x.feed(2, 'h', '7', 0, 0, 0), 11);
        Due.is("the bytes in their order", x.power(0), 3);
        Due.is("bytes", x.count(0), 0);
        for (int length = 5; length <= 40; length += 5) {
            Due.is("feed", x.feed(5, 0, 127, 0, 127, 0), length);
        }
        Due.is("full", x.feed(1, 0, 0, 0, 0, 0), EncounterLedger.FULL);
        Due.is("bytes", x.count(0), 40);
        Due.is("the first byte is wrong", x.power(0), -100);
    }

    private static void feedRefusals() {
        EncounterLedger x = new EncounterLedger();
        int bad = EncounterLedger.BAD;
        Due.is("n 0", x.feed(0, 0, 0, 0, 0, 0), bad);
        Due.is("n 6", x.feed(6, 0, 0, 0, 0, 0), bad);
        Due.is("n -1", x.feed(-1, 0, 0, 0, 0, 0), bad);
        Due.is("a", x.feed(1, 128, 0, 0, 0, 0), bad);
        Due.is("b", x.feed(1, 0, -1, 0, 0, 0), bad);
        Due.is("c", x.feed(1, 0, 0, 128, 0, 0), bad);
        Due.is("d", x.feed(1, 0, 0, 0, -1, 0), bad);
        Due.is("e", x.feed(1, 0, 0, 0, 0, 128), bad);
        Due.is("none appended", x.count(0), 0);
        Due.feed(x, "123456789012345678901234567890123456789");
        Due.is("39 bytes", x.count(0), 39);
        Due.is("two more", x.feed(2, 1, 1, 0, 0, 0), EncounterLedger.FULL);
        Due.is("none appended", x.count(0), 39);
        Due.is("BAD is ahead of FULL", x.feed(2, 1, 1, 0, 0, 300), bad);
        Due.is("one more", x.feed(1, 1, 0, 0, 0, 0), 40);
    }

    private static void text(String text, int due) {
        EncounterLedger x = new EncounterLedger();
        Due.is("power of \"" + text + "\"", Due.read(x, 3, text), due);
        Due.is("tape behind \"" + text + "\"", x.count(0), 0);
        Due.is("powers behind \"" + text + "\"", x.count(2), due > 0 ? 8 : 0);
        Due.is("changes behind \"" + text + "\"", x.count(1), due > 0 ? 1 : 0);
    }

    private static void rightTexts() {
        text("s0:h1", 1);
        text("d5:m00", 1);
        text("c3:h0", 1);
        text("l1:k0101", 1);
        text("l1:k5939", 1);
        text("s0:h1,m99", 2);
        text("s0:h1,m99,k1111,h5", 4);
        text("s0:k1111,k2222,k3333,k4432$29", 4);
        text("s0:h1$01", 1);
    }

    private static void wrongTexts() {
        text("", -100);
        text("x", -100);
        text("S1:h1", -100);
        text("s", -101);
        text("s6", -101);
        text("s:", -101);
        text("s1", -102);
        text("s11", -102);
        text("s1:", -103);
        text("s1:x", -103);
        text("s1:h", -104);
        text("s1:hx", -104);
        text("s1:h123", -106);
        text("s1:h1 ", -105);
        text("s1:h1,", -106);
        text("s1:h1,x", -106);
        text("s1:h1,h", -107);
        text("s1:k6", -104);
        text("s1:k", -104);
        text("s1:k0", -105);
        text("s1:k00", -105);
        text("s1:k01", -106);
        text("s1:k014", -106);
        text("s1:k010", -107);
        text("s1:k0100", -107);
        text("s1:k01011", -108);
        text("s1:h1$", -106);
        text("s1:h1$3", -106);
        text("s1:h1$0", -107);
        text("s1:h1$00", -107);
        text("s1:h1$01,", -108);
        text("s1:h1$01$", -108);
        text("s1:h1,h1,h1,h1,h1", -114);
        text("s1:h1,h1,h1,h1,", -114);
        text("s1:h1,h1,h1,h1x", -114);
        text("s1:h12,h12,h12,h12", 4);
    }

    /** Any prefix of a right text that is no text itself is wrong at its end, any other byte at itself. */
    private static void everyPrefixAndEveryByte() {
        String text = "c4:k3129,h07,m5$29";
        String rightPrefixes = " 8 11 12 15 18 ";
        String digits = "0123456789";
        String from1 = "123456789";
        String[] allowed = {"sdcl", "012345", ":", "hmk", "012345", from1, "0123", from1, ",$", "hmk", digits,
            digits + ",$", ",$", "hmk", digits, digits + ",$", "012", from1, ""};
        for (int length = 0; length <= text.length(); length++) {
            boolean right = rightPrefixes.contains(" " + length + " ");
            EncounterLedger x = new EncounterLedger();
            int got = Due.read(x, 0, text.substring(0, length));
            Due.holds("prefix of length " + length + " answered " + got,
                right ? got > 0 : got == -100 - length);
            bytesBehind(text.substring(0, length), allowed[length]);
        }
    }

    private static void bytesBehind(String prefix, String allowed) {
        for (char sign = 0; sign < 128; sign++) {
            int got = Due.read(new EncounterLedger(), 0, prefix + sign);
            int at = allowed.indexOf(sign) < 0 ? prefix.length() : prefix.length() + 1;
            Due.holds("byte " + (int) sign + " behind " + prefix + " answered " + got,
                got == -100 - at || allowed.indexOf(sign) >= 0 && got > 0);
        }
    }

    private static void wrongTextKeepsTheEarlierPower() {
        EncounterLedger x = new EncounterLedger();
        Due.is("power", Due.read(x, 1, "s0:h1,h1"), 2);
        Due.is("a wrong one", Due.read(x, 1, "s0:h1,x"), -106);
        Due.is("powers", x.count(2), 2);
        Due.is("no change by it", x.count(1), 1);
        Due.feed(x, "s0:m1");
        Due.is("power(-1)", x.power(-1), EncounterLedger.NONE);
        Due.is("power(4)", x.power(4), EncounterLedger.NONE);
        Due.is("the tape stays", x.count(0), 5);
        Due.is("in place of the earlier one", x.power(1), 1);
        Due.is("powers", x.count(2), 2);
    }

    /** A hero on 44 against a foe on 45, the hero first. */
    private static EncounterLedger duel(int heroLife, int foeLife) {
        EncounterLedger x = new EncounterLedger();
        x.add(0, 44, heroLife, 9, 4);
        x.add(1, 45, foeLife, -5, 4);
        return x;
    }

    private static final int HERO_FIRST = Due.seed(20, 1, 1, 1);

    private static void strikes() {
        EncounterLedger x = duel(20, 7);
        x.begin(HERO_FIRST);
        Due.is("strike", x.strike(1), 5);
        Due.is("its life", x.fighter(1, 2), 2);
        Due.is("acts", x.account(8), 1);
        Due.nextTurnOf(x, 0);
        Due.is("strike what is left", x.strike(1), 2);
        Due.is("it is down", x.account(1), 1);
        Due.is("it cannot act", x.fighter(1, 6), 0);
        Due.is("harm", x.account(4), 7);
        int last = x.entry(-1, 0) - 1;
        Due.is("entry of the strike", x.entry(last - 1, 0), 10);
        Due.is("its fighter", x.entry(last - 1, 1), 0);
        Due.is("its number", x.entry(last - 1, 2), 1);
        Due.is("entry of harm", x.entry(last, 0), 1);
        Due.is("its number", x.entry(last, 2), 2);
        Due.nextTurnOf(x, 0);
        Due.refused("strike one down", x, x.strike(1), 7);
    }

    private static void strikesThatDoNothing() {
        EncounterLedger x = duel(20, 20);
        Due.read(x, 0, "s0:k2639");
        x.begin(HERO_FIRST);
        x.endTurn();
        x.cast(0, 45, 0);
        x.endTurn();
        int before = x.entry(-1, 0);
        Due.is("a strike on a shield", x.strike(1), 0);
        Due.is("it makes one entry", x.entry(-1, 0), before + 1);
        Due.is("it counts", x.account(8), 2);
        x.finish();
        Due.is("nothing to mend, too", x.rest(0), 0);
    }

    private static void strikeRefusals() {
        EncounterLedger x = duel(20, 20);
        x.add(0, 34, 9, 0, 1);
        x.add(1, 55, 9, 0, 1);
        Due.is("no fighter", x.strike(4), EncounterLedger.NONE);
        Due.is("no fighter", x.strike(-1), EncounterLedger.NONE);
        Due.refused("no encounter", x, x.strike(1), 1);
        x.begin(HERO_FIRST);
        Due.refused("itself", x, x.strike(0), 7);
        Due.refused("a friend", x, x.strike(2), 7);
        Due.refused("across the corner", x, x.strike(3), 7);
        x.strike(1);
        Due.refused("a second time", x, x.strike(1), 4);
        Due.refused("acted is ahead of no target", x, x.strike(0), 4);
        EncounterLedger y = new EncounterLedger();
        y.add(0, 9, 9, 9, 1);
        y.add(1, 10, 9, 0, 1);
        y.begin(HERO_FIRST);
        Due.refused("at the other edge", y, y.strike(1), 7);
    }

    private static void castRefusals() {
        EncounterLedger x = duel(20, 20);
        Due.read(x, 0, "s0:k5101$19");
        Due.read(x, 1, "s0:k5101");
        int none = EncounterLedger.NONE;
        Due.is("power -1", x.cast(-1, 0, 0), none);
        Due.is("power 4", x.cast(4, 0, 0), none);
        Due.is("cell -1", x.cast(0, -1, 0), none);
        Due.is("cell 100", x.cast(0, 100, 0), none);
        Due.is("direction -1", x.cast(0, 0, -1), none);
        Due.is("direction 4", x.cast(0, 0, 4), none);
        Due.refused("no encounter", x, x.cast(2, 0, 0), 1);
        x.begin(HERO_FIRST);
        Due.refused("missing", x, x.cast(2, 0, 0), 8);
        Due.refused("too little", x, x.cast(0, 0, 0), 9);
        Due.is("nothing spent", x.fighter(0, 11), 3);
        Due.is("sleep", x.cast(1, 45, 0), 1);
        Due.refused("acted", x, x.cast(2, 0, 0), 4);
        x.endTurn();
        Due.refused("asleep", x, x.cast(2, 0, 0), 3);
        Due.is("acts", x.account(8), 1);
    }

    private static void castSpends() {
        EncounterLedger x = duel(20, 20);
        Due.read(x, 3, "s0:h3$12");
        x.begin(HERO_FIRST);
        int before = x.entry(-1, 0);
        Due.is("cast", x.cast(3, 45, 0), 1);
        Due.is("left", x.fighter(0, 11), 1);
        Due.is("greatest", x.fighter(0, 21), 3);
        int[][] due = {{10, 0, 13}, {5, 0, 12}, {1, 1, 3}};
        for (int i = 0; i < due.length; i++) {
            for (int what = 0; what < 3; what++) {
                Due.is("entry", x.entry(before + i, what), due[i][what]);
            }
        }
        Due.is("no more entries", x.entry(-1, 0), before + 3);
        Due.nextTurnOf(x, 0);
        Due.refused("too little", x, x.cast(3, 45, 0), 9);
        Due.is("not acted", x.turn(3), 0);
    }

    private static void harmAndMending() {
        EncounterLedger x = duel(20, 20);
        Due.read(x, 0, "s5:h12,m30");
        Due.read(x, 1, "s5:k4409,k2209,h3");
        Due.read(x, 2, "s5:h0");
        Due.read(x, 3, "s5:m1");
        x.begin(HERO_FIRST);
        x.cast(0, 44, 0);
        Due.is("harmed the other side", x.fighter(1, 2), 8);
        Due.is("nothing to mend", x.account(5), 0);
        Due.is("no entry for nothing", x.entry(x.entry(-1, 0) - 1, 0), 1);
        x.endTurn();
        Due.is("the foe shields itself, marks the hero", x.cast(1, 44, 0), 2);
        Due.is("harm with marks", x.fighter(0, 2), 13);
        x.endTurn();
        Due.is("marks of the hero", x.fighter(0, 34), 4);
        Due.is("shields of the foe", x.fighter(1, 32), 2);
        Due.is("strike a shield", x.strike(1), 3);
        x.endTurn();
        Due.is("harm of 0 is what the marks tell", x.cast(2, 44, 0), 2);
        Due.is("life", x.fighter(0, 2), 9);
        x.endTurn();
        x.cast(2, 44, 0);
        Due.is("harm below 0 is none", x.fighter(1, 2), 5);
        x.endTurn();
        x.cast(3, 44, 0);
        Due.is("mended by 1", x.fighter(1, 2), 6);
        Due.is("the other side is not mended", x.fighter(0, 2), 9);
        Due.is("mended", x.account(5), 1);
        Due.is("harm", x.account(4), 12 + 7 + 3 + 4);
    }

    private static void whomEffectsMeet() {
        EncounterLedger x = new EncounterLedger();
        Due.read(x, 0, "s1:h99");
        Due.read(x, 1, "s1:k2139,k3139,k0139,k1139");
        Due.read(x, 2, "s1:m1,k4139");
        x.add(0, 44, 20, 9, 4);
        x.add(0, 45, 20, -5, 4);
        x.add(1, 54, 20, -5, 4);
        x.add(1, 55, 20, -5, 4);
        x.begin(Due.seed(20, 1, 1, 1));
        x.cast(1, 44, 0);
        int[] kinds = {2, 2, 3, 3, 0, 0, 1, 1};
        int[] owners = {0, 1, 0, 1, 2, 3, 2, 3};
        Due.is("conditions", x.condition(-1, 0), kinds.length);
        for (int i = 0; i < kinds.length; i++) {
            Due.is("kind", x.condition(i, 0), kinds[i]);
            Due.is("owner", x.condition(i, 1), owners[i]);
            Due.is("source", x.condition(i, 2), 0);
        }
        Due.nextTurnOf(x, 0);
        Due.is("cast", x.cast(0, 44, 0), 4);
        Due.is("two down", x.account(1), 2);
        Due.is("friends are not harmed", x.account(2), 40);
        Due.nextTurnOf(x, 0);
        int before = x.condition(-1, 0);
        Due.is("down ones are counted", x.cast(2, 44, 0), 4);
        Due.is("but get no conditions", x.condition(-1, 0), before);
    }

    private static void mendedOnesAreUpAgain() {
        EncounterLedger y = new EncounterLedger();
        Due.read(y, 0, "s0:h99");
        Due.read(y, 1, "s5:m0,m7,k3119");
        y.add(0, 44, 20, 9, 4);
        y.add(1, 45, 20, 5, 4);
        y.add(1, 46, 20, -5, 4);
        y.begin(Due.seed(20, 16, 1));
        y.cast(0, 46, 0);
        y.endTurn();
        Due.is("the foe mends its friend", y.cast(1, 46, 0), 3);
        Due.is("it is up again", y.fighter(2, 2), 7);
        Due.is("none is down", y.account(1), 0);
        Due.is("and behind that has haste", y.fighter(2, 33), 1);
    }

    private static void effectsOneByOne() {
        EncounterLedger x = new EncounterLedger();
        Due.read(x, 0, "s5:h1,k4109,h1");
        x.add(1, 0, 20, -5, 1);
        x.add(0, 44, 20, 9, 4);
        x.add(1, 45, 20, -5, 1);
        x.add(1, 46, 20, -5, 1);
        x.begin(Due.seed(1, 20, 1, 3));
        x.add(1, 47, 20, 0, 1);
        int before = x.entry(-1, 0);
        Due.is("cast", x.cast(0, 44, 0), 5);
        int[] kinds = {10, 1, 1, 1, 1, 3, 3, 3, 3, 1, 1, 1, 1};
        int[] fighters = {1, 3, 0, 2, 4, 3, 0, 2, 4, 3, 0, 2, 4};
        for (int i = 0; i < kinds.length; i++) {
            Due.is("kind of entry " + i, x.entry(before + i, 0), kinds[i]);
            Due.is("fighter of entry " + i, x.entry(before + i, 1), fighters[i]);
        }
        Due.is("the last harm is with the marks", x.entry(before + 12, 2), 2);
        Due.is("entries", x.entry(-1, 0), before + kinds.length);
    }

    private static void shapesOfCasts() {
        EncounterLedger x = duel(20, 20);
        x.add(1, 54, 20, -5, 1);
        x.add(1, 66, 20, -5, 1);
        Due.read(x, 0, "c2:h1");
        Due.read(x, 1, "l2:h1");
        Due.read(x, 2, "d1:h1");
        Due.read(x, 3, "s0:h1");
        x.begin(HERO_FIRST);
        Due.is("cone to the next row", x.cast(0, 99, 1), 1);
        Due.nextTurnOf(x, 0);
        Due.is("cone to the next column", x.cast(0, 99, 0), 1);
        Due.nextTurnOf(x, 0);
        Due.is("line to the column before", x.cast(1, 99, 2), 0);
        Due.nextTurnOf(x, 0);
        Due.is("diamond", x.cast(2, 55, 3), 2);
        Due.nextTurnOf(x, 0);
        Due.is("square of one cell", x.cast(3, 66, 3), 1);
        Due.is("lives", x.account(3), 60 - 5);
    }
}
