/** All that an object answers, in one text: two objects in the same state have the same. */
final class Answers {
    private Answers() {
    }

    /** Few answers, for an object that is asked often: it answers 512 calls. */
    static String few(PrizePurses x) {
        return "states " + x.recordedStates() + " bank " + x.bank() + " coins " + x.coinsByPlaces()
                + " stalls " + x.stalls() + " children " + x.children() + " round " + x.round();
    }

    static String of(PrizePurses x) {
        StringBuilder all = new StringBuilder();
        all.append("bank ").append(x.bank()).append(" town ").append(x.town());
        all.append(" all ").append(x.allCoins()).append(' ').append(x.coinsByPlaces());
        all.append(" takings ").append(x.takings()).append(' ').append(x.takingsByChildren());
        all.append(" plays ").append(x.plays()).append(" day ").append(x.day());
        all.append(" round ").append(x.round()).append(" due ").append(x.isChildDue());
        all.append(" records ").append(x.recordedStates()).append(" text ").append(x.textError());
        all.append(" today ").append(x.takingsToday()).append(" best");
        for (int kind = 0; kind < 5; kind++) {
            all.append(' ').append(x.bestPitch(kind, kind + 1));
        }
        all.append(" here ").append(x.atFair()).append(" happiest ").append(x.happiest());
        all.append(" sulkers ").append(x.sulkers()).append("\n  rain");
        for (int hour = 0; hour < 10; hour++) {
            all.append(' ').append(x.rainIn(hour));
        }
        all.append(" pitches");
        for (int pitch = 0; pitch < 12; pitch++) {
            all.append(' ').append(x.stallOn(pitch)).append('/').append(x.crowdOn(pitch));
        }
        all.append(" won");
        for (int level = 0; level < 4; level++) {
            all.append(' ').append(x.wonOf(level));
        }
        addStalls(x, all);
        addChildren(x, all);
        return all.toString();
    }

    private static void addStalls(PrizePurses x, StringBuilder all) {
        for (int stall = 0; stall < x.stalls(); stall++) {
            all.append("\n  stall ").append(stall).append(':');
            all.append(" pitch ").append(x.pitchOf(stall)).append(" price ").append(x.priceOf(stall));
            all.append(" open ").append(x.isOpen(stall)).append(" purse ").append(x.purseOfStall(stall));
            all.append(" plays ").append(x.playsOf(stall)).append(" rent ").append(x.rentOf(stall));
            all.append(" to win ").append(x.playsToWin(stall)).append(' ').append(x.levelToWin(stall));
            all.append(" shelf ").append(x.shelfOf(stall)).append(':');
            for (int i = 0; i < 16; i++) {
                all.append(' ').append(x.prizesOn(stall, i / 4, i % 4));
            }
        }
    }

    private static void addChildren(PrizePurses x, StringBuilder all) {
        for (int child = 0; child < x.children(); child++) {
            all.append("\n  child ").append(child).append(':');
            all.append(x.isAtFair(child) ? " here" : " gone").append(" purse ").append(x.purseOf(child));
            all.append(" mood ").append(x.moodOf(child)).append(" place ").append(x.placeOf(child));
            all.append(" homeward ").append(x.isHomeward(child)).append(" prizes ").append(x.prizesOf(child));
            all.append(" why ").append(x.whyNoPlay(child));
            if (x.isAtFair(child)) {
                all.append(" home in ").append(x.homeIn(child));
            }
        }
    }
}
