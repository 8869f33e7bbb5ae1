/** Compares answers with those that are due, and what several tests need to set a ledger up. */
final class Due {
    private static final int MOST_SEEDS = 20_000_000;

    private static int asked = 0;
    private static int wrong = 0;
    private static String about = "";

    private Due() {
    }

    /** The words that the next answers are about; they are printed with each one that is not as due. */
    static void about(String words) {
        about = words.isEmpty() ? "" : "[" + words + "] ";
    }

    static void is(String call, int got, int due) {
        asked++;
        if (got != due) {
            wrong++;
            System.out.println(about + call + " answered " + got + ", due is " + due);
        }
    }

    static void holds(String what, boolean holds) {
        asked++;
        if (!holds) {
            wrong++;
            System.out.println(about + "does not hold: " + what);
        }
    }

    /** The call has to be refused with STATE and this reason. */
    static void refused(String call, EncounterLedger ledger, int got, int reason) {
        is(call, got, EncounterLedger.STATE);
        is("reason() behind " + call, ledger.reason(), reason);
    }

    static void end(String test) {
        System.out.println(test + ": " + asked + " answers, " + wrong + " not as due");
        if (wrong != 0) {
            System.exit(1);
        }
    }

    static void feed(EncounterLedger ledger, String text) {
        for (int i = 0; i < text.length(); i += 5) {
            int[] bytes = new int[5];
            int n = Math.min(5, text.length() - i);
            for (int k = 0; k < n; k++) {
                bytes[k] = text.charAt(i + k);
            }
            ledger.feed(n, bytes[0], bytes[1], bytes[2], bytes[3], bytes[4]);
        }
    }

    static int read(EncounterLedger ledger, int power, String text) {
        feed(ledger, text);
        return ledger.power(power);
    }

    static int cell(int column, int row) {
        return 10 * row + column;
    }

    /** A seed whose first draws are these. */
    static int seed(int... draws) {
        for (int seed = 0; seed < MOST_SEEDS; seed++) {
            int z = seed;
            int found = 0;
            while (found < draws.length) {
                z = z * 1103515245 + 12345;
                if (1 + (z >>> 16) % 20 != draws[found]) {
                    break;
                }
                found++;
            }
            if (found == draws.length) {
                return seed;
            }
        }
        throw new IllegalStateException("no such seed");
    }

    /** Ends turns until it is the turn of this fighter, at least one if it is its turn now. */
    static void nextTurnOf(EncounterLedger ledger, int fighter) {
        for (int i = 0; i < 16; i++) {
            if (ledger.endTurn() == fighter) {
                return;
            }
        }
        throw new IllegalStateException("no turn of " + fighter);
    }
}
