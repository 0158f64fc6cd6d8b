/** All that can be asked of an object, told as one text: two objects that tell the same stand alike. */
final class Tour {
    /** Some 170 calls at most; heads, votes and the way are asked by setting them, and are set back. */
    static String of(PeopleLands x) {
        StringBuilder told = new StringBuilder();
        for (int what = 0; what < 5; what++) {
            told.append(' ').append(x.count(what));
        }
        cells(x, told);
        whatFollows(x, told);
        people(x, told);
        return told.toString();
    }

    private static void cells(PeopleLands x, StringBuilder told) {
        int size = x.count(0);
        told.append(" map ");
        for (int cell = 0; cell < size; cell++) {
            told.append(x.at(false, cell));
        }
        told.append(" drawing ");
        for (int cell = 0; cell < size; cell++) {
            told.append(x.at(true, cell));
        }
    }

    private static void whatFollows(PeopleLands x, StringBuilder told) {
        told.append(" faults ").append(x.faults()).append(" chain ").append(x.chain());
        for (int i = 0; i < 6; i++) {
            told.append(' ').append(x.link(i));
        }
        told.append(" off ").append(x.off());
        for (int land = 0; land < 6; land++) {
            told.append(' ').append(x.tile(land)).append(' ').append(x.due(land));
        }
    }

    private static void people(PeopleLands x, StringBuilder told) {
        int way = x.way(0);
        x.way(way);
        told.append(" way ").append(way).append(" heads");
        for (int land = 0; land < 6; land++) {
            int heads = x.heads(land, 0);
            x.heads(land, heads);
            told.append(' ').append(heads).append(" votes");
            for (int side = 0; side < 3; side++) {
                int votes = x.votes(land, side, 0);
                x.votes(land, side, votes);
                told.append(' ').append(votes);
            }
        }
    }
}
