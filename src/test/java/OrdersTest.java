/** Promises 12 to 16: order texts, their first errors, and what they carry out. */
final class OrdersTest {
    private static final Due DUE = new Due();
    private static final int NONE = PrizePurses.NONE;

    public static void main(String[] args) {
        typing();
        clearing();
        validTexts();
        firstErrors();
        everySignOfABuilding();
        errorsBehindEightySigns();
        whatCannotBeCarriedOut();
        ordersAfterOneAnother();
        carryingOut();
        carryingOutIsOneAction();
        invalidTexts();
        DUE.end();
    }

    private static void typing() {
        PrizePurses x = new PrizePurses();
        for (int i = 1; i <= 80; i++) {
            DUE.is("12: length", x.type(i % 3 == 0 ? (char) 0 : i % 3 == 1 ? (char) 65535 : 'p'), i);
        }
        DUE.noState(x, "12: the 81st", () -> x.type('p'));
        DUE.is("13: length", x.clearText(), 80);
        DUE.is("12: length", x.type('p'), 1);
        DUE.is("59: no action", x.recordedStates(), 0);
    }

    private static void clearing() {
        PrizePurses x = new PrizePurses();
        DUE.is("13: empty", x.clearText(), 0);
        Scene.typed(x, "p4");
        DUE.is("14: valid", x.textError(), NONE);
        DUE.is("13: length", x.clearText(), 2);
        DUE.is("14: empty again", x.textError(), 0);
        DUE.is("13: empty", x.clearText(), 0);
        DUE.is("59: no action", x.recordedStates(), 0);
        // Signs of an earlier text may not show through behind the end of a shorter one.
        String longer = "p12;b10h1^;r0:00*12;f0+12;c12h0;w0=1";
        String[] texts = {"p1", "p12;b1h1", "p12;b10h1", "p12;b10h1^;r0:00*1", "p12;b10h1^;r0:00*12;f0+1"};
        for (String text : texts) {
            PrizePurses y = Scene.typed(Scene.typed(new PrizePurses(), longer), text);
            DUE.is("14: " + text, y.textError(), NONE);
        }
        for (int length = 0; length < longer.length(); length++) {
            String begun = longer.substring(0, length);
            PrizePurses y = Scene.typed(new PrizePurses(), begun);
            PrizePurses z = Scene.typed(Scene.typed(new PrizePurses(), longer), begun);
            DUE.is("14: begun to " + length, z.textError(), y.textError());
        }
    }

    private static void error(String text, int want) {
        PrizePurses x = Scene.typed(new PrizePurses(), text);
        DUE.is("14: " + text, x.textError(), want);
        if (want != NONE) {
            DUE.noState(x, "15: " + text, x::impossibleOrder);
            DUE.noState(x, "16: " + text, x::carryOut);
        }
    }

    private static void validTexts() {
        String[] texts = {
            "b0h1", "b9d9", "b10c5^", "b11l1", "b1t2^", "b1c1", "r0:00*1", "r5:33*40", "r3:12*39", "r1:00*9",
            "r2:20*10", "f0+1", "f5+99", "f1+10", "c0h0", "c99t3", "c9c1", "c10d2", "w0=0", "w9=9", "p1",
            "p9", "p10", "p39", "p40", "p1;p2", "b0h1;b0h1", "b0h1^;r0:00*1;f0+1;c0h0;w0=0;p1",
            "p1;p1;p1;p1;p1;p1;p1;p1;p1;p1;p1;p1;p1;p1;p1;p1;p1;p1;p1;p1;p1;p1;p1;p1;p1;p1;p1",
        };
        for (String text : texts) {
            error(text, NONE);
        }
        for (int number = 0; number < 100; number++) {
            int tooGreat = number < 10 ? NONE : 2;
            error("b" + number + "h1", number <= 11 ? NONE : 2);
            error("p" + number, number == 0 ? 1 : number <= 40 ? NONE : 2);
            error("r0:00*" + number, number == 0 ? 6 : number <= 40 ? NONE : 7);
            error("f0+" + number, number == 0 ? 3 : NONE);
            error("c" + number + "h0", NONE);
            error("w" + number + "=0", tooGreat);
            error("f" + number + "+1", number / 10 > 5 || number > 5 && number < 10 ? 1 : tooGreat);
            error("r" + number + ":00*1", number / 10 > 5 || number > 5 && number < 10 ? 1 : tooGreat);
            error("w0=" + number, number < 10 ? NONE : 4);
            error("r0:" + number + "*1", number < 10 ? number < 4 ? 4 : 3
                    : number / 10 > 3 ? 3 : number % 10 > 3 ? 4 : NONE);
        }
    }

    private static void firstErrors() {
        error("", 0);
        error("b", 1);
        error("b1", 2);
        error("b1h", 3);
        error("b1h5;", 5);
        error("b1h5^;", 6);
        error("b1h5^^", 5);
        error("b1h5^p", 5);
        error("b1h5p1", 4);
        error("b1h0", 3);
        error("b1h10", 4);
        error("b00h1", 2);
        error("b01h1", 2);
        error("b12h1", 2);
        error("b20h1", 2);
        error("b111h1", 3);
        error("bh1", 1);
        error("b-1h1", 1);
        error("b1x1", 2);
        error("b1H1", 2);
        error("b1h^", 3);
        error("r", 1);
        error("r0", 2);
        error("r0:", 3);
        error("r0:1", 4);
        error("r0:12", 5);
        error("r0:12*", 6);
        error("r0:12*0", 6);
        error("r0:12*01", 6);
        error("r0:12*400", 8);
        error("r0:12+1", 5);
        error("r0:4", 3);
        error("r0:04", 4);
        error("r6:00*1", 1);
        error("r00:00*1", 2);
        error("r0=00*1", 2);
        error("f0", 2);
        error("f0+", 3);
        error("f0+0", 3);
        error("f0+100", 5);
        error("f6+1", 1);
        error("f0:1", 2);
        error("c", 1);
        error("c5", 2);
        error("c50", 3);
        error("c50h", 4);
        error("c100h0", 3);
        error("c05h0", 2);
        error("c00h0", 2);
        error("c5h4", 3);
        error("c5h00", 4);
        error("ch0", 1);
        error("w", 1);
        error("w1", 2);
        error("w1=", 3);
        error("w10=1", 2);
        error("w1=10", 4);
        error("w1:1", 2);
        error("p", 1);
        error("p0", 1);
        error("p01", 1);
        error("p41", 2);
        error("p50", 2);
        error("p400", 3);
        error("p4;", 3);
        error("p4;;", 3);
        error(";p4", 0);
        error(";", 0);
        error("p4,p4", 2);
        error("p4 ", 2);
        error(" p4", 0);
        error("P4", 0);
        error("x", 0);
        error("p4;x", 3);
        error("p4;p", 4);
        error("p4;p0", 4);
        error("p4;b12", 5);
        error("4", 0);
        error("p" + (char) 0x0664, 1);
        error("p4" + (char) 0, 2);
        error("" + (char) 0x0170, 0);
        error("b1" + (char) 0x0168 + "1", 2);
        error("p4" + (char) 0x013b, 2);
    }

    /** At each place of a building every sign but the ones that are due is an error. */
    private static void everySignOfABuilding() {
        String[] begun = {"", "b", "b3", "b3h", "b3h4", "b3h4^"};
        String[] due = {"brfcwp", "0123456789", "hdclt", "123456789", "^;", ";"};
        for (int i = 0; i < begun.length; i++) {
            for (char sign = 0; sign < 400; sign++) {
                PrizePurses x = Scene.typed(new PrizePurses(), begun[i] + sign);
                boolean errs = x.textError() == i;
                DUE.is("14: " + begun[i] + " and then " + (int) sign, errs, due[i].indexOf(sign) < 0);
            }
        }
    }

    /** A text that is only too long for the 80 signs ends too early; it has no other error. */
    private static void errorsBehindEightySigns() {
        String twenty = "p40;p40;p40;p40;p40;";
        PrizePurses x = Scene.typed(new PrizePurses(), twenty + twenty + twenty + twenty);
        DUE.is("14: it ends too early", x.textError(), 80);
        DUE.noState(x, "12: no room", () -> x.type('p'));
        Scene.typed(x, twenty + twenty + twenty + twenty.substring(0, 16) + "b1h5");
        DUE.is("14: valid", x.textError(), NONE);
        Scene.typed(x, twenty + twenty + twenty + twenty.substring(0, 16) + "b1h0");
        DUE.is("14: the last sign", x.textError(), 79);
        Scene.typed(x, twenty + twenty + twenty + twenty.substring(0, 17) + "b1h");
        DUE.is("14: in the middle", x.textError(), 77);
    }

    private static void impossible(Due.Maker fair, String text, int want) {
        PrizePurses x = Scene.typed(fair.make(), text);
        DUE.is("15: " + text, x.impossibleOrder(), want);
        DUE.is("15: nothing changes", Answers.of(x), Answers.of(Scene.typed(fair.make(), text)));
        if (want != NONE) {
            DUE.noState("16: " + text, () -> Scene.typed(fair.make(), text), PrizePurses::carryOut);
        }
    }

    private static PrizePurses withOneStall() {
        PrizePurses x = Scene.quiet();
        x.build(3, PrizePurses.DIP, 1, false);
        return x;
    }

    private static PrizePurses withTwoStalls() {
        PrizePurses x = withOneStall();
        x.build(4, PrizePurses.DIP, 1, false);
        x.fund(1, 20);
        return x;
    }

    private static PrizePurses withoutTheFirst() {
        PrizePurses x = withTwoStalls();
        x.pullDown(0);
        return x;
    }

    private static void whatCannotBeCarriedOut() {
        impossible(OrdersTest::withOneStall, "b3h1", 0);
        impossible(OrdersTest::withOneStall, "b4h1", NONE);
        impossible(OrdersTest::withOneStall, "r1:00*1", 0);
        impossible(OrdersTest::withOneStall, "r0:00*1", 0);
        impossible(OrdersTest::withTwoStalls, "r1:00*1", NONE);
        impossible(OrdersTest::withoutTheFirst, "r1:00*1", 0);
        String[] texts = {
            "f1+1", "f0+1", "f0+99;f0+99;f0+99;f0+99;f0+75", "f0+99;f0+99;f0+99;f0+99;f0+74",
            "f0+99;f0+99;f0+99;f0+99;f0+44;b4h1", "f0+99;f0+99;f0+99;f0+99;f0+45;b4h1",
            "f0+99;f0+99;f0+99;f0+99;f0+24;b4h1^", "f0+99;f0+99;f0+99;f0+99;f0+25;b4h1^",
            "f0+40;r0:00*40;r0:00*1", "f0+41;r0:00*40;r0:00*1", "f0+60;r0:30*6;r0:30*1",
            "f0+70;r0:30*6;r0:30*1", "f0+10;r0:20*2", "f0+12;r0:20*2", "w0=9;c0h0;p40",
            "b0h1;b1h1;b2h1;b4h1;b5h1;b6h1",
        };
        int[] due = {0, NONE, 4, NONE, NONE, 5, NONE, 5, 2, 2, 2, NONE, 1, NONE, NONE, 5};
        for (int i = 0; i < texts.length; i++) {
            impossible(OrdersTest::withOneStall, texts[i], due[i]);
        }
        PrizePurses x = withOneStall();
        for (int i = 0; i < 39; i++) {
            x.come(0, 0, 0);
        }
        DUE.is("15: the 40th", Scene.typed(x, "c0h0").impossibleOrder(), NONE);
        DUE.is("15: the 41st", Scene.typed(x, "c0h0;c0h0;p1").impossibleOrder(), 1);
        DUE.is("15: when all have gone", Scene.typed(x, "c0h0;p23;c0h0").impossibleOrder(), NONE);
        DUE.is("59: the children who came", x.recordedStates(), 4);
    }

    private static void ordersAfterOneAnother() {
        String[] texts = {
            "f0+1", "f0+1;b0h1", "b0h1;f0+1", "b0h1;f0+1;r0:00*1;r0:00*1", "b0h1;b1h1;f1+1;f2+1;f0+1",
            // A child who pays at the stall: then it can buy the prize.
            "w0=5;b1h3;c9h0;p1;r0:00*3", "w0=5;b1h3;c9h0;p2;r0:00*3", "w0=5;b1h3;c9h0;p2;r0:00*4",
        };
        int[] due = {0, 0, NONE, 3, 3, 4, NONE, 4};
        for (int i = 0; i < texts.length; i++) {
            impossible(PrizePurses::new, texts[i], due[i]);
        }
    }

    private static void carryingOut() {
        PrizePurses x = Scene.typed(new PrizePurses(), "w0=5;b3l2^;f0+41;r0:13*2;r0:02*5;c30l2;b11t9;p4");
        DUE.is("16: orders", x.carryOut(), 8);
        DUE.is("47: rain", x.rainIn(0), 5);
        DUE.is("20: stalls", x.stalls(), 2);
        DUE.is("21: pitch", x.pitchOf(0), 3);
        DUE.is("21: pitch", x.pitchOf(1), 11);
        DUE.is("23: price", x.priceOf(0), 2);
        DUE.is("23: price", x.priceOf(1), 9);
        DUE.is("28: DIP", x.playsToWin(0), 1);
        DUE.is("28: TEA", x.playsToWin(1), NONE);
        DUE.is("49: bank", x.bank(), 500 - 50 - 41 - 30);
        DUE.is("25: purse", x.purseOfStall(0), 41 - 6 - 5 + 2);
        DUE.is("29: level 1, colour 3", x.prizesOn(0, 1, 3), 2);
        DUE.is("29: level 0, colour 2, one won", x.prizesOn(0, 0, 2), 4);
        DUE.is("36: purse", x.purseOf(0), 28);
        DUE.is("37: three rounds of rain, then a prize", x.moodOf(0), 60 - 6 + 30);
        DUE.is("46: round", x.round(), 4);
        DUE.is("14: the text stays", x.textError(), NONE);
        DUE.is("13: the text stays", x.clearText(), 47);
        String[] kinds = {"h", "d", "c", "l", "t"};
        int[] due = {4, 3, 5, 1, NONE};
        for (int kind = 0; kind < 5; kind++) {
            PrizePurses y = Scene.typed(new PrizePurses(), "b1" + kinds[kind] + "1");
            DUE.is("16: one order", y.carryOut(), 1);
            DUE.is("28: kind " + kinds[kind], y.playsToWin(0), due[kind]);
            favouriteOf(kinds[kind], kind);
        }
        PrizePurses z = Scene.typed(new PrizePurses(), "p40");
        DUE.is("16: one order", z.carryOut(), 1);
        DUE.is("16: the same text again", z.carryOut(), 1);
        DUE.is("45: day", z.day(), 2);
    }

    private static void favouriteOf(String letter, int kind) {
        PrizePurses x = Scene.rain(new PrizePurses(), 9);
        Scene.typed(x, "c9" + letter + "0;p3;b3" + letter + "1");
        x.carryOut();
        DUE.is("37: three rounds of rain", x.moodOf(0), 48);
        DUE.is("41: its favourite", x.whyNoPlay(0), 0);
        x.pullDown(0);
        x.build(3, kind == 0 ? 1 : 0, 1, false);
        DUE.is("41: another kind", x.whyNoPlay(0), PrizePurses.SULKING);
    }

    private static void carryingOutIsOneAction() {
        PrizePurses x = new PrizePurses();
        String before = Answers.of(x);
        Scene.typed(x, "b0h1;b1h1;f0+5;p7");
        DUE.is("16: orders", x.carryOut(), 4);
        DUE.is("59: one state", x.recordedStates(), 1);
        DUE.is("17: undone", x.undo(), 0);
        x.clearText();
        DUE.is("17: as before", Answers.of(x), before);
        Scene.typed(x, "b0h1;b0h1");
        DUE.noState(x, "16: the second cannot be", x::carryOut);
        DUE.is("59: none", x.recordedStates(), 0);
    }

    private static void invalidTexts() {
        PrizePurses x = Scene.typed(new PrizePurses(), "b0h1;b1h");
        DUE.noState(x, "16: not even the first", x::carryOut);
        DUE.noState(x, "15: not valid", x::impossibleOrder);
        x.type('1');
        DUE.is("15: valid now", x.impossibleOrder(), NONE);
        x.type(';');
        DUE.noState(x, "16: not valid", x::carryOut);
    }
}
