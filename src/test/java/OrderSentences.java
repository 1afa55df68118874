/** What the document says of order texts: terms, and the promises 12 to 16. */
final class OrderSentences {
    private static final int NONE = PrizePurses.NONE;
    private static final String STATE = "IllegalStateException";

    private OrderSentences() {
    }

    static void tell(Sentences s) {
        texts(s);
        building(s);
        restocking(s);
        funding(s);
        coming(s);
        rainAndRounds(s);
        errors(s);
        type(s);
        textError(s);
        impossibleOrder(s);
        carryOut(s);
    }

    private static PrizePurses typed(String text) {
        return Scene.typed(new PrizePurses(), text);
    }

    /** Orders, each with a ";" behind it, that have so many signs. */
    private static String orders(int length) {
        StringBuilder text = new StringBuilder();
        while ((length - text.length()) % 4 != 0) {
            text.append("p1;");
        }
        while (text.length() < length) {
            text.append("p40;");
        }
        return text.toString();
    }

    private static void error(Due due, String text, int want) {
        due.is("error of \"" + text + "\"", typed(text).textError(), want);
    }

    /** After what is begun, each sign but those that are due is the first error; with each of these, none. */
    private static void nextSigns(Due due, String begun, String signs) {
        for (char sign = 0; sign < 300; sign++) {
            error(due, begun, sign, signs.indexOf(sign) >= 0);
        }
        for (char sign : new char[] {0x0661, 0x2C3A, 0x2C62, 0x2C72, 0x7F, 0xFF30, 0xFFFF}) {
            error(due, begun, sign, false);
        }
    }

    private static void error(Due due, String begun, char sign, boolean fits) {
        int error = typed(begun + sign).textError();
        int here = begun.length();
        due.is("\"" + begun + "\" and the sign " + (int) sign, error == here, !fits);
        due.is("an error before it", error >= 0 && error < here, false);
    }

    private static void texts(Sentences s) {
        s.chapter("ORDERS");
        s.holds("The order text has at most 80 characters", due -> {
            PrizePurses x = new PrizePurses();
            for (int length = 1; length <= 80; length++) {
                due.is("type", x.type('x'), length);
            }
            due.is("type the 81st", Due.outcome(() -> x.type('x')), STATE);
            due.is("clearText", x.clearText(), 80);
        });
        s.holds("and is empty at first.", due -> {
            due.is("its length", new PrizePurses().clearText(), 0);
            due.is("its error", new PrizePurses().textError(), 0);
        });
        s.holds("A valid text consists of one or more orders", due -> {
            error(due, "", 0);
            error(due, "p1", NONE);
            error(due, "p1;p2", NONE);
            error(due, "b0h1^;r0:00*1;f0+1;c0h0;w0=0;p1", NONE);
            error(due, "p1;".repeat(26) + "p1", NONE);
            due.is("carryOut of 27", typed("p1;".repeat(26) + "p1").carryOut(), 27);
        });
        s.holds("with \";\" between two of them:", due -> {
            error(due, "p1p2", 2);
            error(due, "p1;;p2", 3);
            error(due, ";p1", 0);
            error(due, "p1;", 3);
            error(due, "p1,p2", 2);
            error(due, "p1 ;p2", 2);
            error(due, "p1; p2", 3);
            nextSigns(due, "p40", ";");
            nextSigns(due, "p1;", "brfcwp");
        });
    }

    private static void building(Sentences s) {
        s.holds("\"b\", a pitch (0 to 11),", due -> {
            nextSigns(due, "", "brfcwp");
            nextSigns(due, "b", "0123456789");
            nextSigns(due, "b0", "hdclt");
            nextSigns(due, "b1", "01hdclt");
            nextSigns(due, "b2", "hdclt");
            nextSigns(due, "b11", "hdclt");
            for (int pitch = 0; pitch < 100; pitch++) {
                error(due, "b" + pitch + "t1", pitch <= 11 ? NONE : 2);
            }
            error(due, "B0t1", 0);
        });
        s.holds("the letter of a kind,", due -> {
            nextSigns(due, "b10", "hdclt");
            String[] letters = {"h", "d", "c", "l", "t"};
            int[] plays = {4, 3, 5, 1, NONE};
            for (int kind = 0; kind < 5; kind++) {
                PrizePurses x = typed("b0" + letters[kind] + "1");
                x.carryOut();
                due.is("plays to win at " + letters[kind], x.playsToWin(0), plays[kind]);
            }
        });
        s.holds("a price (1 to 9),", due -> {
            nextSigns(due, "b0h", "123456789");
            error(due, "b0h10", 4);
            for (int price = 1; price <= 9; price++) {
                PrizePurses x = typed("b0h" + price);
                x.carryOut();
                due.is("price", x.priceOf(0), price);
            }
        });
        s.holds("and perhaps \"^\" for a roof:", due -> {
            nextSigns(due, "b0h1", "^;");
            nextSigns(due, "b0h1^", ";");
            for (boolean roof : new boolean[] {false, true}) {
                PrizePurses x = Scene.typed(Scene.rainy(), roof ? "b0h9^" : "b0h9");
                x.carryOut();
                due.is("bank", x.bank(), roof ? 450 : 470);
                x.come(0, 0, 0);
                x.pass(1);
                due.is("mood below it", x.moodOf(0), roof ? 60 : 58);
            }
        });
        s.holds("a stall is built;", due -> {
            PrizePurses x = typed("b11d7;b3h2^");
            x.carryOut();
            PrizePurses y = new PrizePurses();
            y.build(11, PrizePurses.DARTS, 7, false);
            y.build(3, PrizePurses.HOOPLA, 2, true);
            same(due, x, y);
        });
    }

    /** The same state, whatever is recorded and typed. */
    private static void same(Due due, PrizePurses x, PrizePurses y) {
        String other = "records \\d text -?\\d+";
        due.is("the state", Answers.of(x).replaceAll(other, ""), Answers.of(y).replaceAll(other, ""));
    }

    private static void restocking(Sentences s) {
        s.holds("\"r\", a stall (0 to 5), \":\",", due -> {
            nextSigns(due, "r", "012345");
            for (int stall = 0; stall < 6; stall++) {
                nextSigns(due, "r" + stall, ":");
                error(due, "r" + stall + ":00*1", NONE);
            }
            error(due, "r6:00*1", 1);
        });
        s.holds("a level (0 to 3),", due -> {
            nextSigns(due, "r0:", "0123");
            error(due, "r0:40*1", 3);
        });
        s.holds("a colour (0 to 3), \"*\"", due -> {
            for (int level = 0; level < 4; level++) {
                nextSigns(due, "r0:" + level, "0123");
            }
            for (int colour = 0; colour < 4; colour++) {
                nextSigns(due, "r0:1" + colour, "*");
            }
            error(due, "r0:04*1", 4);
        });
        s.holds("and a number (1 to 40):", due -> {
            nextSigns(due, "r0:00*", "123456789");
            nextSigns(due, "r0:00*3", "0123456789;");
            nextSigns(due, "r0:00*4", "0;");
            nextSigns(due, "r0:00*5", ";");
            nextSigns(due, "r0:00*40", ";");
            nextSigns(due, "r0:00*10", ";");
            for (int number = 1; number < 100; number++) {
                error(due, "r0:00*" + number, number <= 40 ? NONE : 7);
            }
        });
        s.holds("its shelf gets so many prizes;", due -> {
            PrizePurses x = Scene.sixStalls();
            PrizePurses y = Scene.sixStalls();
            Scene.typed(x, "r0:13*2;r5:30*1;r2:02*20").carryOut();
            y.restock(0, 1, 3, 2);
            y.restock(5, 3, 0, 1);
            y.restock(2, 0, 2, 20);
            same(due, x, y);
            due.is("twenty", x.prizesOn(2, 0, 2), 20);
        });
    }

    private static void funding(Sentences s) {
        s.holds("\"f\", a stall, \"+\"", due -> {
            nextSigns(due, "f", "012345");
            for (int stall = 0; stall < 6; stall++) {
                nextSigns(due, "f" + stall, "+");
                error(due, "f" + stall + "+1", NONE);
            }
        });
        s.holds("and a number (1 to 99):", due -> {
            nextSigns(due, "f0+", "123456789");
            nextSigns(due, "f0+1", "0123456789;");
            nextSigns(due, "f0+9", "0123456789;");
            nextSigns(due, "f0+99", ";");
            nextSigns(due, "f0+10", ";");
            for (int number = 1; number < 100; number++) {
                error(due, "f0+" + number, NONE);
            }
        });
        s.holds("so many coins go from the bank to its purse;", due -> {
            PrizePurses x = Scene.typed(Scene.sixStalls(), "f0+1;f5+99;f3+10");
            x.carryOut();
            due.is("bank", x.bank(), 200 - 110);
            due.is("purse of 0", x.purseOfStall(0), 21);
            due.is("purse of 5", x.purseOfStall(5), 119);
            due.is("purse of 3", x.purseOfStall(3), 30);
        });
    }

    private static void coming(Sentences s) {
        s.holds("\"c\", a purse (0 to 99),", due -> {
            nextSigns(due, "c", "0123456789");
            nextSigns(due, "c0", "hdclt");
            nextSigns(due, "c1", "0123456789hdclt");
            nextSigns(due, "c9", "0123456789hdclt");
            nextSigns(due, "c99", "hdclt");
            nextSigns(due, "c10", "hdclt");
            for (int purse = 0; purse < 100; purse++) {
                PrizePurses x = typed("c" + purse + "h0");
                x.carryOut();
                due.is("purse", x.purseOf(0), purse);
            }
        });
        s.holds("the letter of a kind and a colour:", due -> {
            nextSigns(due, "c50", "hdclt");
            for (String letter : new String[] {"h", "d", "c", "l", "t"}) {
                nextSigns(due, "c50" + letter, "0123");
            }
            for (int colour = 0; colour < 4; colour++) {
                nextSigns(due, "c50h" + colour, ";");
            }
        });
        s.holds("a child comes;", due -> {
            String[] letters = {"h", "d", "c", "l", "t"};
            for (int kind = 0; kind < 5; kind++) {
                PrizePurses x = Scene.typed(Scene.rain(new PrizePurses(), 9), "c9" + letters[kind] + "0;p3");
                x.carryOut();
                due.is("children", x.children(), 1);
                due.is("mood", x.moodOf(0), 48);
                for (int stall = 0; stall < 4; stall++) {
                    x.build(3, stall, 1, false);
                    due.is(letters[kind] + " at " + stall, x.whyNoPlay(0), kind == stall ? 0 : PrizePurses.SULKING);
                    x.pullDown(0);
                }
            }
            for (int colour = 0; colour < 4; colour++) {
                PrizePurses x = Scene.stocked(PrizePurses.DIP, 1, false, 0, 1, 2, 3);
                Scene.typed(x, "c1l" + colour).carryOut();
                due.is("coins", x.allCoins(), 501);
                x.pass(1);
                due.is("the prize of its colour", x.prizesOn(0, 0, colour), 0);
            }
        });
    }

    private static void rainAndRounds(Sentences s) {
        s.holds("\"w\", an hour (0 to 9), \"=\"", due -> {
            nextSigns(due, "w", "0123456789");
            for (int hour = 0; hour < 10; hour++) {
                nextSigns(due, "w" + hour, "=");
            }
        });
        s.holds("and a digit:", due -> {
            nextSigns(due, "w0=", "0123456789");
            for (int rain = 0; rain < 10; rain++) {
                nextSigns(due, "w0=" + rain, ";");
            }
        });
        s.holds("the rain of the hour;", due -> {
            PrizePurses x = typed("w0=9;w9=1;w5=4;w5=3;w3=2;w3=0");
            x.carryOut();
            int[] rains = {9, 0, 0, 0, 0, 3, 0, 0, 0, 1};
            for (int hour = 0; hour < 10; hour++) {
                due.is("rain of " + hour, x.rainIn(hour), rains[hour]);
            }
        });
        s.holds("\"p\" and a number (1 to 40):", due -> {
            nextSigns(due, "p", "123456789");
            nextSigns(due, "p3", "0123456789;");
            nextSigns(due, "p4", "0;");
            nextSigns(due, "p5", ";");
            nextSigns(due, "p10", ";");
            for (int number = 1; number < 100; number++) {
                error(due, "p" + number, number <= 40 ? NONE : 2);
            }
        });
        s.holds("so many rounds pass.", due -> {
            for (int rounds = 1; rounds <= 40; rounds++) {
                PrizePurses x = typed("p" + rounds);
                x.carryOut();
                due.is("round", x.round(), rounds % 40);
                due.is("day", x.day(), rounds / 40);
            }
            PrizePurses y = Scene.typed(Scene.busy(), "p17");
            PrizePurses z = Scene.busy();
            y.carryOut();
            z.pass(17);
            same(due, y, z);
        });
    }

    private static void errors(Sentences s) {
        s.holds("Numbers have no leading zeros.", due -> {
            error(due, "b00t1", 2);
            error(due, "b01t1", 2);
            error(due, "b0t01", 3);
            error(due, "r00:00*1", 2);
            error(due, "r0:000*1", 5);
            error(due, "r0:00*01", 6);
            error(due, "f00+1", 2);
            error(due, "f0+01", 3);
            error(due, "c00h0", 2);
            error(due, "c05h0", 2);
            error(due, "c5h00", 4);
            error(due, "w00=1", 2);
            error(due, "w0=00", 4);
            error(due, "p01", 1);
            error(due, "p0", 1);
            error(due, "b0t1", NONE);
            error(due, "c0h0", NONE);
            error(due, "c10h0", NONE);
            error(due, "p20", NONE);
        });
        s.holds("The first error of a text is the index of the first character that no valid text (of any length)"
                + " can have at that place after the characters before it;", due -> {
            error(due, "x", 0);
            error(due, "p1x", 2);
            error(due, "p1xx;x", 2);
            error(due, "p1;x", 3);
            error(due, "p41", 2);
            error(due, "p4x", 2);
            error(due, "p400", 3);
            error(due, "b12h1", 2);
            error(due, "b1x", 2);
            error(due, "b1h0;x", 3);
            error(due, "f1+100", 5);
            error(due, "c100h1", 3);
            error(due, "r0:00*41", 7);
            error(due, "w1=10", 4);
            error(due, orders(76) + "p4;x", 79);
            error(due, orders(76) + "b1h0", 79);
            error(due, orders(76) + "p041", 77);
        });
        s.holds("if there is none, but the text ends too early (an empty text does), it is the length of the text.",
                due -> {
            error(due, "", 0);
            for (String order : new String[] {"b11h1", "r0:00*", "f0+", "c99h", "w0=", "p"}) {
                for (int length = 1; length <= order.length(); length++) {
                    String begun = order.substring(0, length);
                    error(due, begun, begun.equals("b11h1") ? NONE : length);
                    error(due, "p1;" + begun, begun.equals("b11h1") ? NONE : length + 3);
                }
            }
            error(due, "p1;", 3);
            error(due, "b1h1^;", 6);
            error(due, orders(80), 80);
            error(due, orders(76) + "b1h", 79);
            error(due, orders(76) + "c99h", 80);
            error(due, orders(76) + "b1h1", NONE);
            String[] ends = {"b", "b1", "b11", "b1h", "r", "r0", "r0:", "r0:1", "r0:12", "r0:12*", "f", "f0", "f0+",
                "c", "c9", "c99", "c99h", "w", "w0", "w0=", "p", "p1;"};
            for (String end : ends) {
                String text = orders(80 - end.length()) + end;
                due.is("length of a text that ends with " + end, text.length(), 80);
                error(due, text, 80);
            }
        });
    }

    private static void type(Sentences s) {
        s.chapter("Promise 12");
        s.holds("Appends a character to the order text.", due -> {
            PrizePurses x = new PrizePurses();
            x.type('p');
            due.is("error of p", x.textError(), 1);
            x.type('4');
            due.is("error of p4", x.textError(), NONE);
            x.type('0');
            due.is("error of p40", x.textError(), NONE);
            x.type('0');
            due.is("error of p400", x.textError(), 3);
            due.is("it is no action", x.recordedStates(), 0);
        });
        s.holds("`character`: any character", due -> {
            for (int sign = 0; sign < 65536; sign += sign < 512 ? 1 : 127) {
                PrizePurses x = new PrizePurses();
                due.is("sign " + sign, x.type((char) sign), 1);
            }
            due.is("the last sign of all", new PrizePurses().type('\uffff'), 1);
            due.is("it stands in the text", typed("p1" + '\uffff').textError(), 2);
        });
        s.holds("Returns the length of the text afterwards.", due -> {
            PrizePurses x = new PrizePurses();
            for (int length = 1; length <= 80; length++) {
                due.is("length", x.type((char) (31 * length)), length);
            }
            x.clearText();
            due.is("length", x.type('p'), 1);
        });
        s.holds("Throws `IllegalStateException` if the text has 80 characters", due -> {
            PrizePurses x = typed(orders(80).substring(0, 79));
            due.is("the 80th", x.type(';'), 80);
            due.noState("the 81st", () -> typed(orders(80)), y -> y.type('p'));
            due.is("the 81st", Due.outcome(() -> x.type('p')), STATE);
            due.is("the text is as it was", x.textError(), 80);
            due.is("its length", x.clearText(), 80);
            due.is("behind that", x.type('p'), 1);
        });
        s.chapter("Promise 13");
        s.holds("Empties the order text.", due -> {
            PrizePurses x = typed("p40");
            x.clearText();
            due.is("error of it", x.textError(), 0);
            x.type('p');
            due.is("nothing is left of what was", x.textError(), 1);
            x.type('1');
            due.is("nothing is left of what was", x.carryOut(), 1);
            due.is("nor its rounds", x.round(), 1);
            String longer = "p12;b10h1^;r0:00*12;f0+12;c12h0;w0=1";
            for (int length = 0; length <= longer.length(); length++) {
                String begun = longer.substring(0, length);
                PrizePurses y = Scene.typed(typed(longer), begun);
                due.is("error of \"" + begun + "\" behind a longer text", y.textError(), typed(begun).textError());
            }
        });
        s.holds("Returns the length that it had.", due -> {
            PrizePurses x = new PrizePurses();
            due.is("none", x.clearText(), 0);
            due.is("three", Scene.typed(x, "p40").clearText(), 3);
            due.is("none again", x.clearText(), 0);
            due.is("eighty", Scene.typed(x, orders(80)).clearText(), 80);
            due.is("it is no action", x.recordedStates(), 0);
        });
    }

    private static void textError(Sentences s) {
        s.chapter("Promise 14");
        s.holds("Finds the first error of the order text.", due -> {
            error(due, "p1;p0;x", 4);
            PrizePurses x = typed("p1;p0");
            due.is("once", x.textError(), 4);
            due.is("twice", x.textError(), 4);
            due.is("the length is as it was", x.clearText(), 5);
            due.is("it is no action", x.recordedStates(), 0);
        });
        s.holds("Returns its index;", due -> {
            String text = "p1;w0=5;c9h3;f0+99;r5:33*40;b11t9^";
            for (int index = 0; index < text.length(); index++) {
                error(due, text.substring(0, index) + "!" + text.substring(index), index);
            }
        });
        s.holds("NONE if the text is valid.", due -> {
            error(due, "p1;w0=5;c9h3;f0+99;r5:33*40;b11t9^", -1);
            error(due, "f5+1", -1);
            error(due, "b0h1;b0h1", -1);
        });
    }

    private static void impossible(Due due, Due.Maker fair, String text, int want) {
        PrizePurses x = Scene.typed(fair.make(), text);
        due.is("impossible of \"" + text + "\"", x.impossibleOrder(), want);
    }

    private static void impossibleOrder(Sentences s) {
        s.chapter("Promise 15");
        s.holds("Finds the first order of the text that could not be carried out,", due -> {
            impossible(due, Scene::sixStalls, "b6h1", 0);
            impossible(due, Scene::fiveStalls, "b6h1;b7h1", 1);
            impossible(due, Scene::fiveStalls, "b4h1", 0);
            impossible(due, () -> Scene.withBank(29), "b0h1", 0);
            impossible(due, () -> Scene.withBank(30), "b0h1", NONE);
            impossible(due, () -> Scene.withBank(49), "b0h1^", 0);
            impossible(due, () -> Scene.withBank(50), "b0h1^", NONE);
            impossible(due, Scene::fiveStalls, "r5:00*1", 0);
            impossible(due, Scene::sixStalls, "r5:00*1", NONE);
            impossible(due, Scene::sixStalls, "r0:00*21", 0);
            impossible(due, Scene::sixStalls, "f0+21;r0:00*40", NONE);
            impossible(due, Scene::sixStalls, "f0+21;r0:00*40;r0:00*1", 2);
            impossible(due, Scene::sixStalls, "f0+22;r0:00*40;r1:00*1", NONE);
            impossible(due, Scene::sixStalls, "f0+22;r0:00*40;r0:33*1", 2);
            impossible(due, Scene::fiveStalls, "f5+1", 0);
            impossible(due, () -> Scene.withBank(98), "f0+99", 0);
            impossible(due, () -> Scene.withBank(99), "f0+99", NONE);
            impossible(due, Scene::forty, "c0h0", 0);
            impossible(due, Scene::twoHundred, "p40;c0h0", 1);
            impossible(due, () -> Scene.manyChildren(199), "p40;c0h0", NONE);
            impossible(due, PrizePurses::new, "w9=9;p40", NONE);
        });
        s.holds("if the orders were carried out now,", due -> {
            PrizePurses x = typed("f0+1;p1");
            due.is("before the stall", x.impossibleOrder(), 0);
            x.build(0, 0, 1, false);
            due.is("with it", x.impossibleOrder(), NONE);
            x.pullDown(0);
            due.is("behind it", x.impossibleOrder(), 0);
            String before = Answers.of(Scene.busy());
            PrizePurses y = Scene.busy();
            y.impossibleOrder();
            due.is("nothing is done", Answers.of(y), before);
        });
        s.holds("one after the other.", due -> {
            impossible(due, PrizePurses::new, "b0h1;f0+1;r0:00*1", NONE);
            impossible(due, PrizePurses::new, "f0+1;b0h1", 0);
            impossible(due, PrizePurses::new, "b0h1;b0h1", 1);
            impossible(due, Scene::forty, "p23;c0h0", NONE);
            impossible(due, Scene::forty, "p22;c0h0", 1);
            impossible(due, PrizePurses::new, "w0=5;b0t5;c9h0;p1;r0:00*5", NONE);
            impossible(due, PrizePurses::new, "w0=5;b0t5;c9h0;p1;r0:00*6", 4);
            impossible(due, PrizePurses::new, "b0h1;p40;p40;b0h1", 3);
        });
        s.holds("Returns the number of the order, from 0;", due -> {
            impossible(due, PrizePurses::new, "f0+1", 0);
            impossible(due, PrizePurses::new, "w0=0;f0+1;p1", 1);
            impossible(due, PrizePurses::new, "p1;".repeat(25) + "f0+1", 25);
        });
        s.holds("NONE if all of them could be carried out.", due -> {
            impossible(due, PrizePurses::new, "p1", -1);
            impossible(due, PrizePurses::new, "p1;".repeat(26) + "p1", -1);
            impossible(due, PrizePurses::new, "b0h1^;b1d1;b2c1;b3l1;b4t1;b5h1;f5+99;r5:33*9;c99t3;w9=9;p40", -1);
        });
        s.holds("Throws `IllegalStateException` if the text is not valid", due -> {
            for (String text : new String[] {"", "p", "p1;", "x", "p1x", "b0h1;b0h0"}) {
                due.noState("\"" + text + "\"", () -> typed(text), x -> x.impossibleOrder());
            }
        });
    }

    private static void carryOut(Sentences s) {
        s.chapter("Promise 16");
        s.holds("Carries out all orders of the text, one after the other.", due -> {
            PrizePurses x = Scene.typed(Scene.quiet(), "b0l2;f0+9;r0:02*4;c9l2;w0=4;p2;b7t9^;c0h0");
            PrizePurses y = Scene.quiet();
            x.carryOut();
            y.build(0, PrizePurses.DIP, 2, false);
            y.fund(0, 9);
            y.restock(0, 0, 2, 4);
            y.come(9, PrizePurses.DIP, 2);
            y.setRain(0, 4);
            y.pass(2);
            y.build(7, PrizePurses.TEA, 9, true);
            y.come(0, PrizePurses.HOOPLA, 0);
            same(due, x, y);
            due.is("prizes of the first child", x.prizesOf(0), 2);
        });
        s.holds("The text stays as it is.", due -> {
            PrizePurses x = typed("p40");
            due.is("once", x.carryOut(), 1);
            due.is("twice", x.carryOut(), 1);
            due.is("day", x.day(), 2);
            due.is("its length", x.clearText(), 3);
        });
        s.holds("This is one action.", due -> {
            PrizePurses x = typed("b0h1;b1h1;f0+5;p7;c1h1;w3=3");
            String before = Answers.of(x);
            x.carryOut();
            due.is("one state more", x.recordedStates(), 1);
            due.is("undo", x.undo(), 0);
            due.is("the state before all orders", Answers.of(x), before);
        });
        s.holds("Returns the number of orders.", due -> {
            due.is("one", typed("b11t1^").carryOut(), 1);
            due.is("two", typed("w0=0;w0=0").carryOut(), 2);
            due.is("twenty", typed(orders(80).substring(0, 79)).carryOut(), 20);
            due.is("as many as there can be", typed("p1;".repeat(26) + "p1").carryOut(), 27);
        });
        s.holds("Throws `IllegalStateException` if the text is not valid,", due -> {
            for (String text : new String[] {"", "p", "p1;", "x", "p1x", "b0h1;b0h0"}) {
                due.noState("\"" + text + "\"", () -> typed(text), PrizePurses::carryOut);
            }
        });
        s.holds("or an order cannot be carried out", due -> {
            due.noState("the only one", () -> typed("f0+1"), PrizePurses::carryOut);
            due.noState("the last", () -> typed("b0h1;p3;b0h1"), PrizePurses::carryOut);
            due.noState("a seventh stall", () -> Scene.typed(Scene.sixStalls(), "b9h1"), PrizePurses::carryOut);
            due.noState("a stall that is not there", () -> Scene.typed(Scene.fiveStalls(), "f5+1"),
                    PrizePurses::carryOut);
            due.noState("a prize too dear", () -> Scene.typed(Scene.sixStalls(), "r0:30*3"), PrizePurses::carryOut);
            PrizePurses x = Scene.typed(Scene.forty(), "p1;c0h0");
            due.is("a 41st child", Due.outcome(x::carryOut), STATE);
            due.is("round", x.round(), 0);
            due.is("recorded states", x.recordedStates(), 4);
            PrizePurses y = Scene.typed(Scene.twoHundred(), "p40;c0h0");
            due.is("a 201st child", Due.outcome(y::carryOut), STATE);
            due.is("day", y.day(), 4);
        });
    }
}
