/**
 * Runs of 512 calls, drawn by a generator with fixed seeds, on a PrizePurses and on a PlainFair:
 * every answer and every exception is the same on both. A run ends with its 512th call, in the midst
 * of a text or of the accounts too: what an object answers behind that is free.
 */
final class RandomRunsTest {
    static final int RUNS = 1600;
    static final int CALLS = 512;

    private final PrizePurses x = new PrizePurses();
    private final PlainFair plain = new PlainFair();
    /** 1: many children come; 2: much rain; 3: days pass quickly. */
    private final int mood;
    private long seed;
    private int calls;
    private String call = "";
    private long got;
    private long want;

    private RandomRunsTest(int run) {
        seed = run * 7919L + 17;
        mood = run % 4;
    }

    public static void main(String[] args) {
        int wrong = 0;
        for (int run = 0; run < RUNS; run++) {
            wrong += new RandomRunsTest(run).play(run) ? 0 : 1;
        }
        System.out.println(RUNS + " runs, " + wrong + " of them not as the plain fair");
        if (wrong != 0) {
            System.exit(1);
        }
    }

    private int below(int bound) {
        seed = seed * 6364136223846793005L + 1442695040888963407L;
        return (int) ((seed >>> 33) % bound);
    }

    /** A number from least to most, now and then one or more outside. */
    private int about(int least, int most) {
        int chance = below(40);
        if (chance == 0) {
            return least - 1;
        }
        if (chance == 1) {
            return most + 1;
        }
        if (chance == 2) {
            return below(2) == 0 ? Integer.MIN_VALUE : Integer.MAX_VALUE;
        }
        return least + below(most - least + 1);
    }

    private int aStall() {
        return about(0, Math.max(0, plain.state.booths.size() - 1));
    }

    private int aChild() {
        int count = plain.state.kids.size();
        // Mostly one of the latest: the others are at home.
        return below(3) == 0 ? about(0, Math.max(0, count - 1)) : about(Math.max(0, count - 12), Math.max(0, count - 1));
    }

    private interface Answer {
        int give();
    }

    /** The answer, or a number of the exception thrown; one that the machine throws has its own. */
    private static long answerOf(Answer answer) {
        try {
            return answer.give();
        } catch (RuntimeException e) {
            if (e.getClass() == IndexOutOfBoundsException.class) {
                return 1L << 40;
            }
            if (e.getClass() == IllegalArgumentException.class) {
                return 2L << 40;
            }
            return e.getClass() == IllegalStateException.class ? 3L << 40 : 4L << 40;
        }
    }

    private void both(String name, Answer mine, Answer theirs) {
        if (calls == CALLS) {
            return;
        }
        calls++;
        call = name;
        got = answerOf(mine);
        want = answerOf(theirs);
    }

    private boolean play(int run) {
        while (calls < CALLS) {
            if (below(30) == 0) {
                allAccounts();
            } else {
                anyCall();
            }
            if (got != want) {
                System.out.println("run " + run + ", call " + calls + ": " + call + " answered " + got
                        + ", due is " + want);
                return false;
            }
        }
        return true;
    }

    private void allAccounts() {
        for (int which = 0; which < 16; which++) {
            ofFair(which);
            if (got != want) {
                return;
            }
        }
    }

    private void anyCall() {
        int chance = below(100);
        if (chance < 40) {
            action();
        } else if (chance < 58) {
            textCall();
        } else if (chance < 72) {
            ofStall(below(9), aStall());
        } else if (chance < 86) {
            ofChild(below(8), aChild());
        } else if (chance < 90) {
            ofFair(below(16));
        } else {
            otherCall();
        }
    }

    private void action() {
        int chance = below(100);
        if (chance < 12) {
            int pitch = about(0, 11);
            int kind = about(0, 4);
            int price = about(1, 9);
            boolean roof = below(3) == 0;
            both("build(" + pitch + ", " + kind + ", " + price + ", " + roof + ")",
                    () -> x.build(pitch, kind, price, roof), () -> plain.build(pitch, kind, price, roof));
        } else if (chance < 14) {
            int stall = aStall();
            both("pullDown(" + stall + ")", () -> x.pullDown(stall), () -> plain.pullDown(stall));
        } else if (chance < 18) {
            int stall = aStall();
            int price = about(1, 9);
            both("setPrice(" + stall + ", " + price + ")",
                    () -> x.setPrice(stall, price), () -> plain.setPrice(stall, price));
        } else if (chance < 22) {
            int stall = aStall();
            both("turnStall(" + stall + ")", () -> x.turnStall(stall) ? 1 : 0, () -> plain.turnStall(stall));
        } else if (chance < 32) {
            int stall = aStall();
            int level = about(0, 3);
            int colour = about(0, 3);
            int many = below(3) == 0 ? about(1, 40) : about(1, 6);
            both("restock(" + stall + ", " + level + ", " + colour + ", " + many + ")",
                    () -> x.restock(stall, level, colour, many),
                    () -> plain.restock(stall, level, colour, many));
        } else if (chance < 40) {
            int stall = aStall();
            int coins = below(4) == 0 ? about(1, 99) : about(1, 30);
            both("fund(" + stall + ", " + coins + ")", () -> x.fund(stall, coins), () -> plain.fund(stall, coins));
        } else if (chance < 43) {
            int stall = aStall();
            both("collect(" + stall + ")", () -> x.collect(stall), () -> plain.collect(stall));
        } else if (chance < (mood == 1 ? 85 : 60)) {
            int purse = about(0, 99);
            int kind = about(0, 4);
            int colour = about(0, 3);
            both("come(" + purse + ", " + kind + ", " + colour + ")",
                    () -> x.come(purse, kind, colour), () -> plain.come(purse, kind, colour));
        } else if (chance < 90) {
            int rounds = mood == 3 || below(4) == 0 ? about(1, 40) : about(1, 5);
            both("pass(" + rounds + ")", () -> x.pass(rounds), () -> plain.pass(rounds));
        } else if (chance < 93) {
            int hour = about(0, 9);
            int rain = mood == 2 ? about(0, 9) : about(0, 4) / 2;
            both("setRain(" + hour + ", " + rain + ")", () -> x.setRain(hour, rain), () -> plain.setRain(hour, rain));
        } else if (chance < 97) {
            both("undo()", x::undo, plain::undo);
        } else if (chance < 99) {
            both("takeSnapshot()", x::takeSnapshot, plain::takeSnapshot);
        } else {
            both("restoreSnapshot()", x::restoreSnapshot, plain::restoreSnapshot);
        }
    }

    private void textCall() {
        int chance = below(100);
        if (chance < 40) {
            typeAll(below(8) == 0 ? garbage() : (plain.text.length() > 0 && below(9) > 0 ? ";" : "") + order());
        } else if (chance < 52) {
            both("clearText()", x::clearText, plain::clearText);
        } else if (chance < 68) {
            both("textError() of " + plain.text, x::textError, plain::textError);
        } else if (chance < 84) {
            both("impossibleOrder() of " + plain.text, x::impossibleOrder, plain::impossibleOrder);
        } else {
            both("carryOut() of " + plain.text, x::carryOut, plain::carryOut);
        }
    }

    private void typeAll(String signs) {
        for (int i = 0; i < signs.length(); i++) {
            char sign = signs.charAt(i);
            both("type(" + (int) sign + ")", () -> x.type(sign), () -> plain.type(sign));
            if (got != want) {
                return;
            }
        }
    }

    private String garbage() {
        String signs = "brfcwp;:*+=^hdclt0123456789";
        StringBuilder all = new StringBuilder();
        for (int i = below(6); i >= 0; i--) {
            all.append(below(20) == 0 ? (char) below(65536) : signs.charAt(below(signs.length())));
        }
        return all.toString();
    }

    private String order() {
        char kind = "hdclt".charAt(below(5));
        switch (below(6)) {
            case 0:
                return "b" + below(12) + kind + (1 + below(9)) + (below(3) == 0 ? "^" : "");
            case 1:
                return "r" + below(4) + ":" + below(4) + below(4) + "*" + (1 + below(below(3) == 0 ? 41 : 6));
            case 2:
                return "f" + below(4) + "+" + (1 + below(99));
            case 3:
                return "c" + below(100) + kind + below(4);
            case 4:
                return "w" + below(10) + "=" + below(mood == 2 ? 10 : 3);
            default:
                return "p" + (1 + below(mood == 3 || below(4) == 0 ? 40 : 6));
        }
    }

    private void ofStall(int which, int stall) {
        Answer[] mine = {
            () -> x.pitchOf(stall), () -> x.priceOf(stall), () -> x.isOpen(stall) ? 1 : 0,
            () -> x.purseOfStall(stall), () -> x.playsOf(stall), () -> x.rentOf(stall),
            () -> x.playsToWin(stall), () -> x.shelfOf(stall), () -> x.levelToWin(stall),
        };
        both("call " + which + " of stall " + stall, mine[which], () -> plain.ofStall(which, stall));
    }

    private void ofChild(int which, int child) {
        Answer[] mine = {
            () -> x.isAtFair(child) ? 1 : 0, () -> x.purseOf(child), () -> x.moodOf(child),
            () -> x.placeOf(child), () -> x.isHomeward(child) ? 1 : 0, () -> x.prizesOf(child),
            () -> x.whyNoPlay(child), () -> x.homeIn(child),
        };
        both("call " + which + " of child " + child, mine[which], () -> plain.ofChild(which, child));
    }

    private void ofFair(int which) {
        Answer[] mine = {
            x::stalls, x::children, x::atFair, x::happiest, x::sulkers, x::day, x::round,
            () -> x.isChildDue() ? 1 : 0, x::bank, x::town, x::allCoins, x::coinsByPlaces, x::takings,
            x::takingsByChildren, x::plays, x::recordedStates,
        };
        both("call " + which + " of the fair", mine[which], () -> plain.ofFair(which));
    }

    private void otherCall() {
        int stall = aStall();
        int level = about(0, 3);
        int colour = about(0, 3);
        int pitch = about(0, 11);
        int hour = about(0, 9);
        switch (below(7)) {
            case 0:
                both("stallOn(" + pitch + ")", () -> x.stallOn(pitch), () -> plain.stallOn(pitch));
                break;
            case 1:
                both("prizesOn(" + stall + ", " + level + ", " + colour + ")",
                        () -> x.prizesOn(stall, level, colour), () -> plain.prizesOn(stall, level, colour));
                break;
            case 2:
                both("wonOf(" + level + ")", () -> x.wonOf(level), () -> plain.wonOf(level));
                break;
            case 3:
                both("crowdOn(" + pitch + ")", () -> x.crowdOn(pitch), () -> plain.crowdOn(pitch));
                break;
            case 4:
                both("rainIn(" + hour + ")", () -> x.rainIn(hour), () -> plain.rainIn(hour));
                break;
            case 5:
                both("takingsToday()", x::takingsToday, plain::takingsToday);
                break;
            default:
                int kind = about(0, 4);
                int price = about(1, 9);
                both("bestPitch(" + kind + ", " + price + ")",
                        () -> x.bestPitch(kind, price), () -> plain.bestPitch(kind, price));
        }
    }
}
