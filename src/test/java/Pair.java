/** The class and the model side by side: each call goes to both, and must answer the same. */
final class Pair {
    private final CountTables own = new CountTables();
    private final Model model = new Model();
    private final StringBuilder told = new StringBuilder();
    int calls;
    int wrong;

    /** Feeds a text (its bytes 0 to 255), cuts it to its length, and tells it. */
    void tell(String text) {
        told.append("text ").append(text.replace('\n', '|')).append('\n');
        int length = own.count(6) + text.length();
        for (int[] w : Texts.words(text)) {
            due("feed", own.feed(w[0], w[1], w[2], w[3], w[4]), model.feed(w));
        }
        due("end", own.end(length), model.end(length));
        due("table", own.table(), model.table());
        due("fault", own.fault(0), model.fault(0));
        due("place", own.fault(1), model.fault(1));
    }

    /** One call by its number in the face (0 .. 41) with four arguments, as many as it takes. */
    void call(int which, long a, int b, int c, int d) {
        int i = (int) a;
        String name = which + " (" + a + ", " + b + ", " + c + ", " + d + ")";
        switch (which) {
            case 0 -> due(name, own.feed(i, b, c, d, i), model.feed(i, b, c, d, i));
            case 1 -> due(name, own.end(i), model.end(i));
            case 2 -> due(name, own.table(), model.table());
            case 3 -> due(name, own.fault(i), model.fault(i));
            case 4 -> due(name, own.count(i), model.count(i));
            case 5 -> due(name, own.cell(i, b), model.cell(i, b));
            case 6 -> due(name, own.hole(i, b), model.hole(i, b));
            case 7 -> due(name, own.row(i), model.row(i));
            case 8 -> due(name, own.column(i), model.column(i));
            case 9 -> due(name, own.tables(), model.tables());
            case 10 -> due(name, own.rank(), model.rank());
            case 11 -> due(name, own.of(a, b, c), model.of(a, b, c));
            case 12 -> due(name, own.least(i, b), model.least(i, b));
            case 13 -> due(name, own.most(i, b), model.most(i, b));
            case 14 -> due(name, own.fixed(), model.fixed());
            case 15 -> due(name, own.having(i, b, c), model.having(i, b, c));
            case 16 -> due(name, own.mean(i, b, c), model.mean(i, b, c));
            case 17 -> due(name, own.weight(), model.weight());
            case 18 -> due(name, own.weights(), model.weights());
            case 19 -> due(name, own.heaviest(), model.heaviest());
            case 20 -> due(name, own.lightest(), model.lightest());
            case 21 -> due(name, own.statistic(i), model.statistic(i));
            case 22 -> due(name, own.extreme(i), model.extreme(i));
            case 23 -> due(name, own.share(i, b), model.share(i, b));
            case 24 -> due(name, own.chi(), model.chi());
            case 25 -> due(name, own.excess(i, b), model.excess(i, b));
            case 26 -> due(name, own.swaps(), model.swaps());
            case 27 -> due(name, own.classes(), model.classes());
            case 28 -> due(name, own.joined(), model.joined());
            case 29 -> due(name, own.classOf(i), model.classOf(i));
            case 30 -> due(name, own.sized(i), model.sized(i));
            case 31 -> due(name, own.apart(i, b), model.apart(i, b));
            case 32 -> due(name, own.far(), model.far());
            case 33 -> due(name, own.farthest(), model.farthest());
            case 34 -> due(name, own.within(i), model.within(i));
            case 35 -> due(name, own.ways(i, b), model.ways(i, b));
            case 36 -> due(name, own.drawn(i), model.drawn(i));
            case 37 -> due(name, own.evenly(), model.evenly());
            case 38 -> due(name, own.swap(i, b, c, d), model.swap(i, b, c, d));
            case 39 -> due(name, own.walk(i, b), model.walk(i, b));
            case 40 -> due(name, own.undo(), model.undo());
            default -> due(name, own.anew(), model.anew());
        }
    }

    long tables() {
        return model.tables();
    }

    private void due(String call, long got, long want) {
        calls++;
        told.append(call).append(" -> ").append(want).append('\n');
        if (got != want) {
            wrong++;
            if (wrong == 1) {
                System.out.print(told);
            }
            System.out.println(call + " answered " + got + ", due is " + want);
        }
    }
}
