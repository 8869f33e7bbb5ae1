/** The edges of promises 11 to 13, and of what the document says of powers. */
final class EdgesOfPowers {

    private static final String DIGITS = "0123456789";

    private EdgesOfPowers() {
    }

    static void run() {
        feeding();
        errorsOfFeed();
        reading();
        signs();
        digits();
        errorPositions();
        casting();
        errorsOfCast();
        spending();
        areas();
        orders();
        targets();
    }

    private static int feedWith(EncounterLedger x, int n, int part, int sign) {
        int[] bytes = {1, 2, 3, 4, 5};
        bytes[part] = sign;
        return x.feed(n, bytes[0], bytes[1], bytes[2], bytes[3], bytes[4]);
    }

    /** Whether the byte is appended by now or not, it has to be in range. */
    private static void partOfFeed(int part) {
        for (int n = 1; n <= 5; n++) {
            int number = n;
            for (int sign : Edge.outside(0, 127)) {
                Edge.error("feed(" + n + ", ..) with " + sign, Edge::pair, x -> feedWith(x, number, part, sign), Edge.BAD);
            }
            Due.is("feed with 0", feedWith(new EncounterLedger(), n, part, 0), n);
            Due.is("feed with 127", feedWith(new EncounterLedger(), n, part, 127), n);
        }
    }

    private static void fill(EncounterLedger x, int length) {
        for (int i = 0; i < length; i++) {
            x.feed(1, 'x', 0, 0, 0, 0);
        }
    }

    private static void feeding() {
        Edge.says("11", "Appends bytes to the tape.", () -> {
            EncounterLedger x = new EncounterLedger();
            x.feed(2, 's', '0', 0, 0, 0);
            x.feed(1, ':', 0, 0, 0, 0);
            x.feed(5, 'h', '1', ',', 'm', '2');
            Due.is("read in their order", x.power(0), 2);
            Due.is("no change", x.count(1), 1);
        });
        Edge.says("11", "`n`: the number of bytes, 1 to 5; a is the first one, b the second, and so on", () -> {
            for (int n : Edge.outside(1, 5)) {
                Edge.error("feed(" + n + ", ..)", Edge::pair, x -> x.feed(n, 0, 0, 0, 0, 0), Edge.BAD);
            }
            for (int n = 1; n <= 5; n++) {
                EncounterLedger x = new EncounterLedger();
                Due.is("feed", x.feed(n, 's', '0', ':', 'h', '1'), n);
                Due.is("what was fed", x.power(0), n < 5 ? -100 - n : 1);
            }
        });
        Edge.says("11", "`a`: a byte, 0 to 127", () -> partOfFeed(0));
        Edge.says("11", "`b`: a byte, 0 to 127", () -> partOfFeed(1));
        Edge.says("11", "`c`: a byte, 0 to 127", () -> partOfFeed(2));
        Edge.says("11", "`d`: a byte, 0 to 127", () -> partOfFeed(3));
        Edge.says("11", "`e`: a byte, 0 to 127", () -> partOfFeed(4));
        Edge.says("11", "Returns the new length of the tape", () -> {
            EncounterLedger x = new EncounterLedger();
            int length = 0;
            for (int n : new int[] {1, 2, 3, 4, 5, 5, 4, 3, 2, 1, 5, 5}) {
                length += n;
                Due.is("feed(" + n + ", ..)", x.feed(n, 0, 0, 0, 0, 0), length);
                Due.is("bytes", x.count(0), length);
            }
        });
    }

    private static void errorsOfFeed() {
        Edge.says("11", "BAD if n or any of the bytes is out of range, also of those that are not appended", () -> {
            Edge.error("n 1, and the second byte wrong", Edge::pair, x -> x.feed(1, 0, 128, 0, 0, 0), Edge.BAD);
            Edge.error("n 4, and the fifth byte wrong", Edge::pair, x -> x.feed(4, 0, 0, 0, 0, -1), Edge.BAD);
            Edge.error("BAD is ahead of FULL", x -> fill(x, 40), x -> x.feed(0, 0, 0, 0, 0, 0), Edge.BAD);
            Edge.error("BAD is ahead of FULL", x -> fill(x, 40), x -> x.feed(6, 0, 0, 0, 0, 0), Edge.BAD);
            Edge.error("BAD is ahead of FULL", x -> fill(x, 40), x -> x.feed(1, 0, 0, 0, 0, 128), Edge.BAD);
        });
        Edge.says("11", "FULL if the tape would be longer than 40 bytes, and then none is appended.", () -> {
            for (int length = 36; length <= 40; length++) {
                int filled = length;
                for (int n = 1; n <= 5; n++) {
                    int number = n;
                    if (length + n > 40) {
                        Edge.error("feed(" + n + ", ..) behind " + length, x -> fill(x, filled),
                            x -> x.feed(number, 0, 0, 0, 0, 0), Edge.FULL);
                    } else {
                        EncounterLedger x = new EncounterLedger();
                        fill(x, length);
                        Due.is("feed(" + n + ", ..) behind " + length, x.feed(n, 0, 0, 0, 0, 0), length + n);
                    }
                }
            }
            EncounterLedger x = new EncounterLedger();
            fill(x, 40);
            x.power(0);
            Due.is("an emptied tape has room", x.feed(5, 0, 0, 0, 0, 0), 5);
        });
    }

    private static void text(String text, int due) {
        EncounterLedger x = new EncounterLedger();
        Due.is("power of \"" + text + "\"", Due.read(x, 0, text), due);
        Due.is("tape behind \"" + text + "\"", x.count(0), 0);
        Due.is("powers behind \"" + text + "\"", x.count(2), due > 0 ? 1 : 0);
        Due.is("changes behind \"" + text + "\"", x.count(1), due > 0 ? 1 : 0);
        Due.is("reason behind \"" + text + "\"", x.reason(), -5);
    }

    private static void reading() {
        Edge.says("12", "Reads a power, in place of an earlier one.", () -> {
            EncounterLedger x = Edge.fighting("s0:h9");
            Due.is("another text", Due.read(x, 0, "s0:h2"), 1);
            Due.is("powers", x.count(2), 1);
            Edge.castOn(x, 0, 1);
            Due.is("it is cast", x.fighter(1, 2), 48);
            Due.is("a wrong text", Due.read(x, 0, "s0:h"), -104);
            Due.is("powers still", x.count(2), 1);
            Due.nextTurnOf(x, 0);
            Edge.castOn(x, 0, 1);
            Due.is("the earlier one is cast", x.fighter(1, 2), 46);
            Due.is("one without a cost", Due.read(x, 0, "s0:m1$29"), 1);
            Due.is("in place of one with a cost", Due.read(x, 0, "s0:h1"), 1);
            Due.nextTurnOf(x, 0);
            Due.is("costs nothing", Edge.castOn(x, 0, 1), 1);
        });
        Edge.says("12", "`power`: the power, 0 to 3", () -> {
            for (int power : Edge.outside(0, 3)) {
                Edge.error("power(" + power + ")", x -> Due.feed(x, "s0:h1"), x -> x.power(power), Edge.NONE);
            }
            for (int power = 0; power <= 3; power++) {
                EncounterLedger x = new EncounterLedger();
                Due.is("power(" + power + ")", Due.read(x, power, "s0:h1"), 1);
                Due.is("powers", x.count(2), 1 << power);
            }
        });
        Edge.says("12", "Returns the number of its effects", () -> {
            text("s0:h1", 1);
            text("s0:h1,h1", 2);
            text("s0:h1,m1,k1111", 3);
            text("s0:k1111,h1,m1,h99$01", 4);
        });
        Edge.says("12", "NONE if there is no such number", () -> {
            Edge.error("NONE is ahead of a wrong text", x -> Due.feed(x, "x"), x -> x.power(4), Edge.NONE);
            Edge.error("NONE is ahead of an empty one", Edge::pair, x -> x.power(-1), Edge.NONE);
        });
        Edge.says("12", "-100 minus the error position if the text is wrong.", () -> {
            text("", -100);
            text("x", -100);
            text("s0:h1x", -105);
            text("s0:h1,h1,h1,h1$01,", -117);
            text("sssssssssssssssssssssssssssssssssssssss1", -101);
        });
        Edge.says("Powers", "There are 4 powers, numbered from 0; at first they are missing.", () -> {
            EncounterLedger x = Edge.fighting();
            for (int power = 0; power < 4; power++) {
                Due.refused("cast of a power that is missing", x, x.cast(power, 45, 0), 8);
                Due.is("powers", x.count(2), (1 << power) - 1);
                Due.read(x, power, "s0:h1");
            }
            Due.is("no power 4", x.cast(4, 45, 0), Edge.NONE);
        });
    }

    /** Behind this beginning a text can go on with some signs alone, and with those of them is right with this end. */
    private static void signsBehind(String beginning, String able, String right, String end) {
        for (char sign = 0; sign < 128; sign++) {
            String text = beginning + sign + end;
            int got = Due.read(new EncounterLedger(), 0, text);
            if (able.indexOf(sign) < 0) {
                Due.is("power of \"" + text + "\"", got, -100 - beginning.length());
            } else {
                boolean isRight = right.indexOf(sign) >= 0;
                Due.holds("\"" + text + "\" is right up to the sign, answered " + got,
                    isRight ? got > 0 : got < -100 - beginning.length());
            }
        }
    }

    private static void signs() {
        Edge.says("Powers", "A power is read from the tape in this form, where brackets mean that the part can be left "
            + "out and braces that it can be repeated or left out: power = ( \"s\" | \"d\" | \"c\" | \"l\" ) size \":\" "
            + "effect { \",\" effect } [ \"$\" resource amount ] effect = \"h\" number | \"m\" number | \"k\" kind value "
            + "end count", () -> {
                signsBehind("", "sdcl", "sdcl", "0:h1");
                signsBehind("s0", ":", ":", "h1");
                signsBehind("s0:", "hmk", "hm", "1");
                signsBehind("s0:", "hmk", "k", "0101");
                signsBehind("s0:h1", DIGITS + ",$", ",", "m1");
                signsBehind("s0:h1", DIGITS + ",$", "$", "01");
                signsBehind("s0:h12", ",$", ",", "m1");
                signsBehind("s0:h12", ",$", "$", "01");
                signsBehind("s0:k0101", ",$", ",", "m1");
                signsBehind("s0:k0101", ",$", "$", "01");
                signsBehind("s0:h1,", "hmk", "hm", "1");
                signsBehind("s0:h1,", "hmk", "k", "0101");
                signsBehind("s0:h12,h12,h12,h12", "$", "$", "01");
                signsBehind("s0:h1$01", "", "", "");
            });
        Edge.says("Powers", "The letters stand for the shapes 0 to 3", () -> {
            int[] met = {3, 2, 2, 1};
            for (int shape = 0; shape < 4; shape++) {
                EncounterLedger x = new EncounterLedger();
                Due.read(x, 0, "sdcl".charAt(shape) + "2:h1");
                x.add(0, 44, 20, 9, 1);
                x.add(1, 46, 20, -5, 1);
                x.add(1, 56, 20, -5, 1);
                x.begin(Edge.HERO_FIRST);
                Due.is("met by shape " + shape, x.cast(0, 44, 0), met[shape]);
            }
        });
    }

    private static void digitBehind(String beginning, char least, char most, String end) {
        String right = DIGITS.substring(least - '0', most - '0' + 1);
        signsBehind(beginning, right, right, end);
    }

    private static void digits() {
        Edge.says("Powers", "a size is a digit 0 to 5", () -> {
            for (char letter : "sdcl".toCharArray()) {
                digitBehind("" + letter, '0', '5', ":h1");
            }
            text("s", -101);
            text("s11:h1", -102);
        });
        Edge.says("Powers", "a resource 0 to 2", () -> {
            digitBehind("s0:h1$", '0', '2', "1");
            text("s0:h1$", -106);
        });
        Edge.says("Powers", "an amount, a value and a count 1 to 9", () -> {
            digitBehind("s0:h1$0", '1', '9', "");
            digitBehind("s0:k0", '1', '9', "01");
            digitBehind("s0:k010", '1', '9', "");
            text("s0:h1$0", -107);
            text("s0:h1$011", -108);
            text("s0:k0", -105);
            text("s0:k010", -107);
            text("s0:k01011", -108);
        });
        Edge.says("Powers", "a kind 0 to 5", () -> {
            digitBehind("s0:k", '0', '5', "101");
            text("s0:k", -104);
        });
        Edge.says("Powers", "an end 0 to 3", () -> {
            digitBehind("s0:k01", '0', '3', "1");
            text("s0:k01", -106);
        });
        Edge.says("Powers", "a number 1 or 2 digits", () -> {
            digitBehind("s0:h", '0', '9', "");
            digitBehind("s0:m", '0', '9', "");
            signsBehind("s0:h1", DIGITS + ",$", DIGITS, "");
            signsBehind("s0:m0", DIGITS + ",$", DIGITS, "");
            text("s0:h", -104);
            text("s0:m", -104);
            text("s0:h,m1", -104);
        });
        Edge.says("Powers", "zeros at the front allowed", () -> {
            for (String zeros : new String[] {"0", "00"}) {
                EncounterLedger x = Edge.fighting("s0:h" + zeros);
                Edge.castOn(x, 0, 1);
                Due.is("life", x.fighter(1, 2), 50);
            }
            EncounterLedger x = Edge.fighting("s0:h07");
            Edge.castOn(x, 0, 1);
            Due.is("life", x.fighter(1, 2), 43);
        });
        Edge.says("In doubt", "A third digit is wrong at it.", () -> {
            text("s0:h123", -106);
            text("s0:m000", -106);
            text("s0:h001,m1", -106);
            text("s0:h1,m123", -109);
        });
    }

    private static void errorPositions() {
        Edge.says("Powers", "at most 4 effects.", () -> {
            text("s0:h1,h1,h1,h1", 4);
            text("s0:k0101,k1111,k2121,k3131$29", 4);
            text("s0:h1,h1,h1,h1,h1", -114);
        });
        Edge.says("Powers", "A fifth effect is wrong at the comma ahead of it.", () -> {
            text("s0:h1,h1,h1,h1,", -114);
            text("s0:h1,h1,h1,h1,x", -114);
            text("s0:h1,h1,h1,h1,h1$01", -114);
            text("s0:h11,h11,h11,h11,h1", -118);
            text("s0:k0101,k0101,k0101,k0101,h1", -126);
        });
        Edge.says("Powers", "The error position of a text is the index of its first byte with which no such text can "
            + "continue", () -> {
                String right = "c4:k3129,h07,m5$29";
                for (int place = 0; place < right.length(); place++) {
                    for (char sign : new char[] {0, ' ', '~', 127}) {
                        String wrong = right.substring(0, place) + sign;
                        text(wrong, -100 - place);
                        text(wrong + right.substring(place + 1), -100 - place);
                    }
                }
                text(right + "\0", -118);
                text("xx" + right, -100);
            });
        Edge.says("Powers", "or its length if it ends too early.", () -> {
            String right = "c4:k3129,h07,m5$29";
            int[] effects = {0, 0, 0, 0, 0, 0, 0, 0, 1, 0, 0, 2, 2, 0, 0, 3, 0, 0, 3};
            for (int length = 0; length <= right.length(); length++) {
                text(right.substring(0, length), effects[length] > 0 ? effects[length] : -100 - length);
            }
        });
    }

    private static void casting() {
        Edge.says("13", "The fighter whose turn it is casts a power.", () -> {
            EncounterLedger x = Edge.fighting("s0:h1");
            x.endTurn();
            int before = x.entry(-1, 0);
            Due.is("the foe casts", x.cast(0, 44, 0), 1);
            Edge.entries(x, before, 10, 1, 10, 1, 0, 1);
            Due.is("acts", x.account(8), 1);
            Due.is("has acted", x.turn(3), 1);
        });
        Edge.says("13", "`power`: the power", () -> {
            for (int power : Edge.outside(0, 3)) {
                Edge.error("cast(" + power + ", 45, 0)", Edge::fight, x -> x.cast(power, 45, 0), Edge.NONE);
            }
            for (int power = 0; power < 4; power++) {
                EncounterLedger x = Edge.fighting("s0:h1", "s0:h2", "s0:h3", "s0:h4");
                x.cast(power, 45, 0);
                Due.is("harm by power " + power, x.account(4), power + 1);
                Due.is("its entry", x.entry(x.entry(-1, 0) - 2, 2), 10 + power);
            }
        });
        Edge.says("13", "`cell`: the middle of the area of shape 0 or 1; any cell for the others", () -> {
            for (int shape = 0; shape < 4; shape++) {
                String text = "sdcl".charAt(shape) + "1:h1";
                for (int cell = 0; cell < 100; cell++) {
                    EncounterLedger x = Edge.fighting(text);
                    int toHero = Math.abs(cell % 10 - 4) + Math.abs(cell / 10 - 4);
                    int toFoe = Math.abs(cell % 10 - 5) + Math.abs(cell / 10 - 4);
                    int farFromHero = Math.max(Math.abs(cell % 10 - 4), Math.abs(cell / 10 - 4));
                    int farFromFoe = Math.max(Math.abs(cell % 10 - 5), Math.abs(cell / 10 - 4));
                    int bySquare = (farFromHero <= 1 ? 1 : 0) + (farFromFoe <= 1 ? 1 : 0);
                    int byDiamond = (toHero <= 1 ? 1 : 0) + (toFoe <= 1 ? 1 : 0);
                    Due.is("met from " + cell, x.cast(0, cell, 0), shape == 0 ? bySquare : shape == 1 ? byDiamond : 1);
                }
            }
        });
        Edge.says("13", "`direction`: the direction of the area of shape 2 or 3; any direction for the others", () -> {
            for (int shape = 0; shape < 4; shape++) {
                for (int direction = 0; direction < 4; direction++) {
                    EncounterLedger x = Edge.fighting("sdcl".charAt(shape) + "1:h1");
                    Due.is("met by shape " + shape + " in direction " + direction, x.cast(0, 45, direction),
                        shape < 2 ? 2 : direction == 0 ? 1 : 0);
                }
            }
        });
        Edge.says("13", "Returns the number of fighters in the area, down ones included", () -> {
            EncounterLedger x = new EncounterLedger();
            Edge.read(x, "s5:h99", "s5:m0", "s0:h1");
            for (int i = 0; i < 8; i++) {
                x.add(i % 2, 40 + i, 50, i == 0 ? 9 : -5, 1);
            }
            x.begin(Due.seed(20, 1, 1));
            Due.is("all eight", x.cast(0, 44, 0), 8);
            Due.is("four down", x.account(1), 4);
            Due.nextTurnOf(x, 0);
            Due.is("down ones too", x.cast(1, 44, 0), 8);
            Due.nextTurnOf(x, 0);
            Due.is("nobody", x.cast(2, 0, 0), 0);
            Due.nextTurnOf(x, 0);
            Due.is("itself alone", x.cast(2, 40, 0), 1);
        });
    }

    private static void slept(EncounterLedger x) {
        Edge.read(x, "s0:k5139", "s0:h1$01");
        Edge.pair(x);
        x.amount(1, 0, 0);
        x.begin(Edge.HERO_FIRST);
        x.cast(0, 45, 0);
        x.endTurn();
    }

    private static void acted(EncounterLedger x) {
        Edge.read(x, "s0:h1", "s0:h1$29");
        Edge.fight(x);
        x.strike(1);
    }

    private static void errorsOfCast() {
        Edge.says("13", "NONE if there is no such number of a power, cell or direction", () -> {
            for (int cell : Edge.outside(0, 99)) {
                for (String text : new String[] {"s1:h1", "d1:h1", "c1:h1", "l1:h1"}) {
                    Edge.error("cast to " + cell, x -> {
                        Due.read(x, 0, text);
                        Edge.fight(x);
                    }, x -> x.cast(0, cell, 0), Edge.NONE);
                }
            }
            for (int direction : Edge.outside(0, 3)) {
                for (String text : new String[] {"s1:h1", "d1:h1", "c1:h1", "l1:h1"}) {
                    Edge.error("cast in " + direction, x -> {
                        Due.read(x, 0, text);
                        Edge.fight(x);
                    }, x -> x.cast(0, 45, direction), Edge.NONE);
                }
            }
            Edge.error("NONE is ahead of reason 1", Edge::pair, x -> x.cast(4, 0, 0), Edge.NONE);
            Edge.error("NONE is ahead of reason 3", EdgesOfPowers::slept, x -> x.cast(0, 100, 0), Edge.NONE);
            Edge.error("NONE is ahead of reason 4", EdgesOfPowers::acted, x -> x.cast(0, 0, 4), Edge.NONE);
            Edge.error("NONE is ahead of reason 8", Edge::fight, x -> x.cast(0, -1, 0), Edge.NONE);
        });
        Edge.says("13", "STATE with the reason 1, 3, 4, 8 or 9.", () -> {
            Edge.state("no encounter", x -> {
                Due.read(x, 0, "s0:h1");
                Edge.pair(x);
            }, x -> x.cast(0, 45, 0), 1);
            Edge.state("no encounter, a power that is missing", Edge::pair, x -> x.cast(0, 45, 0), 1);
            Edge.state("cannot act", EdgesOfPowers::slept, x -> x.cast(0, 44, 0), 3);
            Edge.state("cannot act, a power that is missing", EdgesOfPowers::slept, x -> x.cast(3, 44, 0), 3);
            Edge.state("cannot act, too little", EdgesOfPowers::slept, x -> x.cast(1, 44, 0), 3);
            Edge.state("has acted", EdgesOfPowers::acted, x -> x.cast(0, 45, 0), 4);
            Edge.state("has acted, a power that is missing", EdgesOfPowers::acted, x -> x.cast(3, 45, 0), 4);
            Edge.state("has acted, too little", EdgesOfPowers::acted, x -> x.cast(1, 45, 0), 4);
            Edge.state("a power that is missing", Edge::fight, x -> x.cast(0, 45, 0), 8);
            Edge.state("too little", x -> {
                Due.read(x, 0, "s0:h1$22");
                Edge.fight(x);
            }, x -> x.cast(0, 45, 0), 9);
        });
    }

    private static void spending() {
        Edge.says("Powers", "When a fighter casts a power, the amount of the resource is spent first, if it costs one.", () -> {
            EncounterLedger x = Edge.fighting("s0:h3$12", "s0:h3");
            int before = x.entry(-1, 0);
            Edge.castOn(x, 0, 1);
            Edge.entries(x, before, 10, 0, 10, 5, 0, 12, 1, 1, 3);
            Due.is("left", x.fighter(0, 11), 1);
            Due.nextTurnOf(x, 0);
            before = x.entry(-1, 0);
            Edge.castOn(x, 1, 1);
            Edge.entries(x, before, 10, 0, 11, 1, 1, 3);
        });
        Edge.says("Powers", "the amount of the resource is spent", () -> {
            for (int resource = 0; resource < 3; resource++) {
                for (int cost = 1; cost <= 9; cost++) {
                    EncounterLedger x = Edge.paired("s0:h1$" + resource + cost);
                    x.amount(0, resource, cost);
                    x.begin(Edge.HERO_FIRST);
                    Due.is("just enough", Edge.castOn(x, 0, 1), 1);
                    Due.is("left", x.fighter(0, 10 + resource), 0);
                    x.finish();
                    x.amount(0, resource, cost - 1);
                    x.begin(Edge.HERO_FIRST);
                    Due.refused("one too little", x, Edge.castOn(x, 0, 1), 9);
                    Due.is("nothing is spent", x.fighter(0, 10 + resource), cost - 1);
                    Due.is("nothing is done", x.account(8), 1);
                }
            }
        });
    }

    private static void areas() {
        Edge.says("Powers", "The area of shape 0 or 1 has the middle told, that of shape 2 or 3 begins at the fighter's "
            + "cell and has the direction told.", () -> {
                for (int shape = 0; shape < 4; shape++) {
                    EncounterLedger x = new EncounterLedger();
                    Due.read(x, 0, "sdcl".charAt(shape) + "1:h1");
                    x.add(0, 44, 20, 9, 1);
                    x.add(1, 54, 20, -5, 1);
                    x.add(1, 98, 20, -5, 1);
                    x.begin(Edge.HERO_FIRST);
                    x.cast(0, 99, 1);
                    Due.is("beside the fighter", x.fighter(1, 2), shape < 2 ? 20 : 19);
                    Due.is("beside the cell", x.fighter(2, 2), shape < 2 ? 19 : 20);
                    x.finish();
                    x.rest(1);
                    x.begin(Edge.HERO_FIRST);
                    x.cast(0, 44, 0);
                    Due.is("beside both", x.fighter(1, 2), shape < 2 ? 19 : 20);
                }
            });
    }

    private static void orders() {
        Edge.says("Powers", "The effects are done in their order", () -> {
            EncounterLedger x = Edge.fighting("s0:k4139,h30,k5139,h1");
            int before = x.entry(-1, 0);
            Edge.castOn(x, 0, 1);
            Edge.entries(x, before, 10, 0, 10, 3, 1, 4, 1, 1, 31, 3, 1, 5, 1, 1, 2, 4, 1, 5);
        });
        Edge.says("Powers", "each one to all fighters that are in the area when the power is cast, in the order of turns, "
            + "those without a place in it behind the others, ascending", () -> {
                EncounterLedger x = new EncounterLedger();
                Due.read(x, 0, "s4:h1");
                x.add(1, 40, 20, -5, 1);
                x.add(0, 44, 20, 9, 4);
                x.add(1, 45, 20, -5, 1);
                x.add(1, 46, 20, -5, 1);
                x.begin(Due.seed(1, 20, 1, 3));
                x.add(1, 47, 20, 9, 1);
                x.add(1, 48, 20, 9, 1);
                x.add(1, 99, 20, 9, 1);
                int before = x.entry(-1, 0);
                Due.is("all but one", x.cast(0, 44, 0), 6);
                Edge.entries(x, before, 10, 1, 10, 1, 3, 1, 1, 0, 1, 1, 2, 1, 1, 4, 1, 1, 5, 1);
            });
        Edge.says("In doubt", "Each effect is done to all before the next one, by what they are then.", () -> {
            EncounterLedger x = new EncounterLedger();
            Due.read(x, 0, "s5:h5,k4139,h5");
            x.add(0, 44, 20, 9, 4);
            x.add(1, 45, 5, -5, 1);
            x.add(1, 46, 20, -5, 1);
            x.begin(Due.seed(20, 1, 3));
            int before = x.entry(-1, 0);
            x.cast(0, 44, 0);
            Edge.entries(x, before, 10, 0, 10, 1, 2, 5, 1, 1, 5, 3, 2, 4, 1, 2, 6);
        });
    }

    /** Two of each side in a square, the caster first; 1 is its friend, 3 is down. */
    private static EncounterLedger four(String text) {
        EncounterLedger x = new EncounterLedger();
        Edge.read(x, "s0:h99", "s5:h9", text);
        x.add(0, 44, 50, 9, 4);
        x.add(0, 45, 50, -5, 4);
        x.add(1, 54, 50, 5, 4);
        x.add(1, 55, 50, -5, 4);
        x.begin(Due.seed(20, 1, 16, 1));
        x.cast(0, 55, 0);
        x.endTurn();
        x.cast(1, 54, 0);
        Due.nextTurnOf(x, 0);
        x.cast(2, 44, 0);
        return x;
    }

    private static void lives(EncounterLedger x, int... due) {
        for (int i = 0; i < due.length; i++) {
            Due.is("life of " + i, x.fighter(i, 2), due[i]);
        }
    }

    private static void targets() {
        Edge.says("Powers", "h harms those of the other side by the number, with marks and shields", () -> {
            lives(four("s5:h1"), 41, 41, 49, 0);
            lives(four("s5:h49"), 41, 41, 1, 0);
            lives(four("s5:h50"), 41, 41, 0, 0);
            lives(four("s5:h99"), 41, 41, 0, 0);
            lives(four("s5:k4939,h0"), 41, 41, 41, 0);
            EncounterLedger x = Edge.fighting("s5:k2339", "s5:h4", "s5:h2");
            x.cast(0, 44, 0);
            x.endTurn();
            x.cast(1, 44, 0);
            Due.is("less a shield", x.fighter(0, 2), 49);
            Due.nextTurnOf(x, 1);
            x.cast(2, 44, 0);
            Due.is("not below 0", x.fighter(0, 2), 49);
        });
        Edge.says("Powers", "m mends those of the same side, itself and down ones included", () -> {
            lives(four("s5:m1"), 42, 42, 50, 0);
            lives(four("s5:m99"), 50, 50, 50, 0);
            lives(four("s5:m0"), 41, 41, 50, 0);
            EncounterLedger x = four("s5:h1");
            Due.read(x, 2, "s5:m3");
            Due.nextTurnOf(x, 2);
            x.cast(2, 44, 0);
            lives(x, 41, 41, 50, 3);
            Due.is("up again", x.account(1), 0);
        });
        Edge.says("Powers", "k makes a condition, with the caster as its source, for those that are not down: the kinds 2 "
            + "and 3 for those of the same side, the others for those of the other side.", () -> {
                for (int kind = 0; kind < 6; kind++) {
                    EncounterLedger x = four("s5:k" + kind + "123");
                    if (kind == 2 || kind == 3) {
                        Due.is("conditions", x.condition(-1, 0), 2);
                        Edge.condition(x, 0, kind, 0, 0, 1, 2, 3);
                        Edge.condition(x, 1, kind, 1, 0, 1, 2, 3);
                    } else {
                        Due.is("conditions", x.condition(-1, 0), 1);
                        Edge.condition(x, 0, kind, 2, 0, 1, 2, 3);
                    }
                }
            });
    }
}
