/** Promises 27 to 31: votes, who won, who is ahead, and how few votes would turn it. */
public final class VotesTest {
    private static final int NONE = PeopleLands.NONE;

    public static void main(String[] args) {
        votes();
        won();
        has();
        ahead();
        turn();
        turnByNobody();
        turnPastTheThird();
        turnInSeveralLands();
        turnRefused();
        Check.end("VotesTest");
    }

    private static void votes() {
        PeopleLands x = new PeopleLands();
        Check.due(27, "votes(0, 0, 999)", x.votes(0, 0, 999), 0);
        Check.due(27, "votes(0, 0, 1)", x.votes(0, 0, 1), 999);
        Check.due(27, "votes(5, 2, 7)", x.votes(5, 2, 7), 0);
        Check.due(27, "another side", x.votes(5, 1, 3), 0);
        Check.due(27, "another land", x.votes(4, 2, 2), 0);
        Check.due(27, "votes(5, 2, -1)", x.votes(5, 2, -1), PeopleLands.BAD);
        Check.due(27, "votes(5, 2, 1000)", x.votes(5, 2, 1000), PeopleLands.BAD);
        Check.due(27, "votes(5, 2, largest)", x.votes(5, 2, Integer.MAX_VALUE), PeopleLands.BAD);
        for (int n : Check.WILD) {
            Check.due(27, "votes(" + n + ", 0, 1)", x.votes(n, 0, 1), PeopleLands.UNKNOWN);
            Check.due(27, "votes(0, " + n + ", 1)", x.votes(0, n, 1), PeopleLands.UNKNOWN);
            Check.due(27, "votes(" + n + ", 0, -1)", x.votes(n, 0, -1), PeopleLands.UNKNOWN);
        }
        Check.due(27, "votes(0, 3, 1000)", x.votes(0, 3, 1000), PeopleLands.UNKNOWN);
        Check.due(27, "votes(5, 2, 7) again", x.votes(5, 2, 7), 7);
        Check.due(27, "votes(0, 0, 0)", x.votes(0, 0, 0), 1);
        Check.due(27, "heads are others", x.count(3), 0);
    }

    private static void won() {
        PeopleLands x = new PeopleLands();
        Check.due(28, "nobody votes", x.won(0), NONE);
        int[][] polls = {
            {1, 0, 0, 0}, {0, 1, 0, 1}, {0, 0, 1, 2}, {5, 5, 0, NONE}, {5, 0, 5, NONE}, {0, 5, 5, NONE},
            {3, 3, 3, NONE}, {3, 3, 4, 2}, {3, 4, 3, 1}, {4, 3, 3, 0}, {999, 998, 999, NONE}, {999, 998, 997, 0},
        };
        for (int[] poll : polls) {
            Check.votes(x, 3, poll[0], poll[1], poll[2]);
            Check.due(28, poll[0] + " " + poll[1] + " " + poll[2] + ": won(3)", x.won(3), poll[3]);
            Check.due(28, "won(2)", x.won(2), NONE);
        }
        for (int n : Check.WILD) {
            Check.due(28, "won(" + n + ")", x.won(n), PeopleLands.UNKNOWN);
        }
    }

    private static PeopleLands polled() {
        PeopleLands x = Check.mapped("0001", "2233", ".555");
        Check.draw(x, true, "0111", "1233", "3334");
        Check.votes(x, 0, 9, 1, 0);
        Check.votes(x, 1, 2, 8, 3);
        Check.votes(x, 2, 4, 4, 0);
        Check.votes(x, 3, 0, 7, 6);
        Check.votes(x, 4, 30, 20, 100);
        Check.votes(x, 5, 3, 0, 1);
        return x;
    }

    private static void has() {
        PeopleLands x = polled();
        int[][] want = {{6, 1, 48}, {3, 9, 40}, {0, 1, 110}};
        for (int side = 0; side < 3; side++) {
            for (int by = 0; by < 3; by++) {
                Check.due(29, "has(" + side + ", " + by + ")", x.has(side, by), want[side][by]);
            }
        }
        int[] wrong = {-1, 3, 4, 6, Integer.MAX_VALUE, Integer.MIN_VALUE};
        for (int n : wrong) {
            Check.due(29, "has(" + n + ", 0)", x.has(n, 0), PeopleLands.UNKNOWN);
            Check.due(29, "has(0, " + n + ")", x.has(0, n), PeopleLands.BAD);
            Check.due(29, "has(3, " + n + ")", x.has(3, n), PeopleLands.UNKNOWN);
        }
    }

    private static void ahead() {
        PeopleLands x = new PeopleLands();
        for (int by = 0; by < 3; by++) {
            Check.due(30, "nobody: ahead(" + by + ")", x.ahead(by), NONE);
        }
        x = polled();
        Check.due(30, "by acres", x.ahead(0), 0);
        Check.due(30, "by cells", x.ahead(1), 1);
        Check.due(30, "by heads", x.ahead(2), 2);
        x.votes(5, 0, 1);
        Check.due(30, "three each by acres", x.ahead(0), NONE);
        x.votes(4, 2, 32);
        Check.due(30, "46 40 42 by heads", x.ahead(2), 0);
        x.votes(4, 2, 36);
        Check.due(30, "46 40 46 by heads", x.ahead(2), NONE);
        int[] bad = {-1, 3, Integer.MAX_VALUE, Integer.MIN_VALUE};
        for (int n : bad) {
            Check.due(30, "ahead(" + n + ")", x.ahead(n), PeopleLands.BAD);
        }
    }

    private static void turn() {
        PeopleLands x = new PeopleLands();
        x.give(true, 0, 0);
        Check.votes(x, 0, 1, 0, 0);
        Check.due(31, "one vote", x.turn(1), 1);
        Check.votes(x, 0, 10, 3, 0);
        Check.due(31, "6 7", x.turn(1), 4);
        Check.due(31, "4 3 6", x.turn(2), 6);
        Check.votes(x, 0, 10, 4, 0);
        Check.due(31, "6 8, as 7 7 is nobody's", x.turn(1), 4);
        Check.votes(x, 0, 10, 4, 9);
        Check.due(31, "4 10 9", x.turn(1), 6);
        Check.due(31, "9 4 10", x.turn(2), 1);
        Check.votes(x, 0, 999, 0, 998);
        Check.due(31, "all of them", x.turn(1), 999);
        Check.votes(x, 0, 999, 998, 998);
        Check.due(31, "one", x.turn(1), 1);
        Check.due(31, "nothing is changed", x.votes(0, 0, 999), 999);
        Check.due(31, "nothing is changed", x.votes(0, 1, 998), 998);
        Check.due(31, "still ahead", x.ahead(1), 0);
    }

    private static void turnByNobody() {
        PeopleLands x = Check.mapped("...", "...");
        Check.draw(x, true, "000", "112");
        Check.votes(x, 0, 10, 0, 0);
        Check.votes(x, 1, 0, 5, 0);
        Check.votes(x, 2, 0, 0, 5);
        Check.due(31, "nobody's, at 5 5", x.turn(1), 5);
        Check.due(31, "that would not do for the third", x.turn(2), 6);
        Check.votes(x, 0, 10, 9, 0);
        Check.votes(x, 1, 4, 5, 2);
        Check.due(31, "9 10", x.turn(1), 1);
        Check.due(31, "9 9 1 and 1 5 5: two lands are nobody's", x.turn(2), 4);
    }

    private static void turnPastTheThird() {
        PeopleLands x = Check.mapped("...", "...");
        Check.draw(x, true, "000", "112");
        Check.votes(x, 0, 1, 8, 5);
        Check.votes(x, 1, 0, 0, 3);
        Check.votes(x, 2, 9, 4, 0);
        Check.due(31, "1 3 2", x.ahead(1), 1);
        Check.due(31, "3 6 5 is the third's: 6 3 5", x.turn(0), 5);
        Check.due(31, "1 6 7 gives it 5", x.turn(2), 2);
        Check.draw(x, true, "001", "123");
        Check.votes(x, 0, 0, 8, 0);
        Check.votes(x, 1, 0, 0, 3);
        Check.votes(x, 2, 9, 0, 0);
        Check.votes(x, 3, 0, 6, 0);
        Check.due(31, "1 3 2", x.ahead(1), 1);
        Check.due(31, "as many as the third are not enough: 2 2 2 for 4, 3 1 2 for 5", x.turn(0), 5);
    }

    private static void turnInSeveralLands() {
        PeopleLands x = Check.mapped("......", "......", "......");
        Check.draw(x, true, "000111", "222233", "455555");
        Check.votes(x, 0, 100, 0, 0);
        Check.votes(x, 1, 7, 0, 0);
        Check.votes(x, 2, 9, 0, 0);
        Check.votes(x, 3, 3, 0, 0);
        Check.votes(x, 4, 1, 0, 0);
        Check.votes(x, 5, 0, 0, 1);
        Check.due(31, "13 0 5: lands 2 3 4 make it 6 7 5", x.turn(1), 5 + 2 + 1);
        Check.due(31, "13 0 5: lands 1 3, or 2 4, make it 8 0 10", x.turn(2), 6);
        Check.votes(x, 5, 3, 0, 4);
        Check.due(31, "the third's land is of no help", x.turn(1), 8);
        Check.votes(x, 5, 5, 0, 6);
        Check.draw(x, true, "....55", "555555", "55...0");
        Check.due(31, "the third is ahead: refused", x.turn(2), PeopleLands.STATE);
        Check.votes(x, 5, 999, 998, 999);
        Check.draw(x, true, "..5555", "......", "0.....");
        Check.due(31, "1 0 0", x.ahead(1), 0);
        Check.due(31, "more than 999 votes: 997 1000 999", x.turn(1), 2);
    }

    private static void turnRefused() {
        PeopleLands x = polled();
        Check.due(31, "the one that is ahead", x.turn(1), PeopleLands.STATE);
        int[] wrong = {-1, 3, 6, Integer.MAX_VALUE, Integer.MIN_VALUE};
        for (int n : wrong) {
            Check.due(31, "turn(" + n + ")", x.turn(n), PeopleLands.UNKNOWN);
        }
        x = new PeopleLands();
        for (int side = 0; side < 3; side++) {
            Check.due(31, "none is ahead: turn(" + side + ")", x.turn(side), PeopleLands.STATE);
        }
        Check.due(31, "none is ahead: turn(3)", x.turn(3), PeopleLands.UNKNOWN);
        x.give(false, 0, 0);
        x.votes(0, 0, 5);
        Check.due(31, "ahead by acres and heads alone", x.turn(1), PeopleLands.STATE);
    }
}
