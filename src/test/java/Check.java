/** Counts the answers of one test that are not as due, and ends it with exit code 1 if there was one. */
final class Check {
    static final int[] WILD = {-1, 6, 7, 36, 37, 64, 100, -100, Integer.MAX_VALUE, Integer.MIN_VALUE};

    private static int asked = 0;
    private static int wrong = 0;

    static void due(int promise, String call, long got, long want) {
        asked++;
        if (got != want) {
            wrong++;
            System.out.println("promise " + promise + ": " + call + " answered " + got + ", due is " + want);
        }
    }

    static void holds(String what, boolean is) {
        asked++;
        if (!is) {
            wrong++;
            System.out.println("does not hold: " + what);
        }
    }

    static void end(String test) {
        System.out.println(test + ": " + asked + " asked, " + wrong + " wrong");
        if (wrong != 0 || asked == 0) {
            System.exit(1);
        }
    }

    /** One row of signs for each row of the field: 0 .. 5 a land, any other one the sea. */
    static void draw(PeopleLands x, boolean drawn, String... rows) {
        int width = rows[0].length();
        for (int cell = 0; cell < width * rows.length; cell++) {
            x.give(drawn, cell, landOf(rows[cell / width].charAt(cell % width)));
        }
    }

    /** A new object whose field, and in it the map, are as these rows. */
    static PeopleLands mapped(String... rows) {
        PeopleLands x = new PeopleLands();
        x.field(rows[0].length(), rows.length);
        draw(x, false, rows);
        return x;
    }

    static void heads(PeopleLands x, int... heads) {
        for (int land = 0; land < heads.length; land++) {
            x.heads(land, heads[land]);
        }
    }

    static void votes(PeopleLands x, int land, int... votes) {
        for (int side = 0; side < votes.length; side++) {
            x.votes(land, side, votes[side]);
        }
    }

    static void isDrawn(int promise, String when, PeopleLands x, boolean drawn, String... rows) {
        int width = rows[0].length();
        for (int cell = 0; cell < width * rows.length; cell++) {
            due(promise, when + ", at(" + drawn + ", " + cell + ")", x.at(drawn, cell),
                    landOf(rows[cell / width].charAt(cell % width)));
        }
    }

    static void isDue(String when, PeopleLands x, int... want) {
        for (int land = 0; land < want.length; land++) {
            due(10, when + ": due(" + land + ")", x.due(land), want[land]);
        }
    }

    /** The chain is of these lands, one by one; of none, there is no chain. */
    static void isChain(String when, PeopleLands x, int... want) {
        due(18, when + ": chain()", x.chain(), want.length == 0 ? PeopleLands.NONE : want.length);
        for (int i = -1; i < 8; i++) {
            int due = i >= 0 && i < want.length ? want[i] : PeopleLands.NONE;
            due(19, when + ": link(" + i + ")", x.link(i), due);
        }
    }

    static void isTiled(String when, PeopleLands x, int sum, int... tiles) {
        due(24, when + ": off()", x.off(), sum);
        for (int land = 0; land < tiles.length; land++) {
            due(25, when + ": tile(" + land + ")", x.tile(land), tiles[land]);
        }
    }

    private static int landOf(char sign) {
        return sign >= '0' && sign <= '5' ? sign - '0' : 6;
    }
}
