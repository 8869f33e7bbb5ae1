/** The edges of promise 14, and of what the document says of rests. */
final class EdgesOfRests {
    private EdgesOfRests() {
    }

    static void run() {
        resting();
        errors();
        shortRests();
        longRests();
        endOfEncounters();
    }

    /** A hero on 0 and a foe on 9 with this life, which is harmed by so much; the encounter is over. */
    private static EncounterLedger harmed(int life, int harm) {
        EncounterLedger x = new EncounterLedger();
        Edge.read(x, "s0:h" + harm);
        x.add(0, 0, 50, 9, 9);
        x.add(1, 9, life, -5, 9);
        x.begin(Edge.HERO_FIRST);
        Edge.castOn(x, 0, 1);
        x.finish();
        return x;
    }

    private static void resting() {
        Edge.says("14", "All fighters rest.", () -> {
            EncounterLedger x = new EncounterLedger();
            Edge.read(x, "s5:h9", "s5:h8");
            for (int i = 0; i < 8; i++) {
                x.add(i % 2, 40 + i, 40, i == 0 ? 9 : i == 1 ? 5 : -5, 1);
            }
            x.begin(Due.seed(20, 16, 1, 1));
            x.cast(0, 44, 0);
            x.endTurn();
            x.cast(1, 44, 0);
            x.finish();
            Due.is("what all lives gained", x.rest(0), 4 * 9 + 4 * 8);
            for (int i = 0; i < 8; i++) {
                Due.is("life of " + i, x.fighter(i, 2), 40);
            }
            Due.is("rests", x.account(10), 1);
        });
        Edge.says("14", "`isLong`: 0 for a short rest, 1 for a long one", () -> {
            Due.is("a short one", harmed(50, 40).rest(0), 25);
            Due.is("a long one", harmed(50, 40).rest(1), 40);
        });
        Edge.says("14", "Returns the sum of what their lives gained", () -> {
            EncounterLedger x = Edge.paired();
            Due.is("nothing by a short one", x.rest(0), 0);
            Due.is("nothing by a long one", x.rest(1), 0);
            Due.is("rests", x.account(10), 2);
            Due.is("up to the greatest life", harmed(50, 24).rest(0), 24);
        });
    }

    private static void errors() {
        Edge.says("14", "NONE if isLong is invalid", () -> {
            for (int isLong : Edge.outside(0, 1)) {
                Edge.error("rest(" + isLong + ")", Edge::pair, x -> x.rest(isLong), Edge.NONE);
                Edge.error("NONE is ahead of reason 2", Edge::fight, x -> x.rest(isLong), Edge.NONE);
                Edge.error("NONE is ahead of reason 10", x -> { }, x -> x.rest(isLong), Edge.NONE);
            }
        });
        Edge.says("14", "STATE with the reason 2 or 10.", () -> {
            for (int isLong = 0; isLong < 2; isLong++) {
                int one = isLong;
                Edge.state("in an encounter", Edge::fight, x -> x.rest(one), 2);
                Edge.state("without fighters", x -> { }, x -> x.rest(one), 10);
            }
        });
        Edge.says("Rests", "Rests are possible if there is no encounter.", () -> {
            EncounterLedger x = Edge.fighting();
            Due.refused("in an encounter", x, x.rest(0), 2);
            x.finish();
            Due.is("behind it", x.rest(0), 0);
            Due.is("ahead of one", Edge.paired().rest(1), 0);
        });
    }

    private static void shortRests() {
        Edge.says("Rests", "With a short rest, each fighter is mended by half of its greatest life, rounded up", () -> {
            int[] lives = {2, 3, 4, 5, 50, 98, 99};
            for (int life : lives) {
                EncounterLedger x = harmed(life, life - 1);
                int half = life / 2 + life % 2;
                Due.is("rest of a life of " + life, x.rest(0), Math.min(half, life - 1));
                Due.is("life", x.fighter(1, 2), Math.min(1 + half, life));
            }
            EncounterLedger x = harmed(9, 6);
            Due.is("5, not 4", x.rest(0), 5);
            Due.is("the rest of it", x.rest(0), 1);
        });
        Edge.says("Rests", "if it is not down", () -> {
            EncounterLedger x = harmed(50, 50);
            Due.is("one down gains nothing", x.rest(0), 0);
            Due.is("it stays down", x.account(1), 1);
        });
        Edge.says("Rests", "and its resource 0 is full again.", () -> {
            EncounterLedger x = Edge.fighting("s0:h1$02", "s0:h1$13", "s0:h1$21");
            for (int resource = 0; resource < 3; resource++) {
                Edge.castOn(x, resource, 1);
                Due.nextTurnOf(x, 0);
            }
            x.finish();
            int before = x.entry(-1, 0);
            x.rest(0);
            int[] left = {2, 0, 0};
            for (int resource = 0; resource < 3; resource++) {
                Due.is("amount of resource " + resource, x.fighter(0, 10 + resource), left[resource]);
            }
            Edge.entries(x, before, 6, 0, 2, 2, 1, 3);
        });
    }

    private static void longRests() {
        Edge.says("Rests", "With a long rest, each fighter, down ones included, has its greatest life and full "
            + "resources", () -> {
                for (int harm : new int[] {1, 49, 50, 99}) {
                    EncounterLedger x = harmed(50, harm);
                    Due.is("gained", x.rest(1), Math.min(50, harm));
                    Due.is("life", x.fighter(1, 2), 50);
                    Due.is("down", x.account(1), 0);
                }
                EncounterLedger x = Edge.fighting("s0:h1$02", "s0:h1$13", "s0:h1$21");
                for (int resource = 0; resource < 3; resource++) {
                    Edge.castOn(x, resource, 1);
                    Due.nextTurnOf(x, 0);
                }
                x.finish();
                x.rest(1);
                int[] full = {2, 3, 1};
                for (int resource = 0; resource < 3; resource++) {
                    Due.is("amount of resource " + resource, x.fighter(0, 10 + resource), full[resource]);
                }
            });
        Edge.says("Rests", "and conditions with the end 3 end behind that.", () -> {
            EncounterLedger x = Edge.fighting("s5:k4139,k2139,k0129$02");
            x.cast(0, 44, 0);
            x.endTurn();
            x.strike(0);
            x.finish();
            int before = x.entry(-1, 0);
            Due.is("gained", x.rest(1), 4 + 1);
            Edge.entries(x, before, 2, 0, 4, 6, 0, 2, 2, 1, 1, 4, 1, 4, 4, 0, 2);
        });
    }

    private static void endOfEncounters() {
        Edge.says("Rests", "When an encounter ends, all conditions with the ends 0 and 1 end.", () -> {
            EncounterLedger x = Edge.fighting("s5:k4109,k2119,k1129,k3139");
            x.cast(0, 44, 0);
            int before = x.entry(-1, 0);
            x.finish();
            Edge.entries(x, before, 4, 1, 4, 4, 0, 2);
            Due.is("two are left", x.condition(-1, 0), 2);
            Edge.condition(x, 0, 1, 1, 0, 1, 2, 9);
            Edge.condition(x, 1, 3, 0, 0, 1, 3, 9);
        });
    }
}
