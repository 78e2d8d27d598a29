/** Promises 21 and 22: chains. */
final class ChainEdges extends Told {
    static void run() {
        sentence(21, "CHAINS.", () -> {
            due("chains() of a new object", new GridMender().chains(), 0);
            for (int h = 1; h <= 7; h++) {
                for (int w = 1; w <= 7; w++) {
                    GridMender m = new GridMender();
                    m.grid(h, w);
                    m.lots(1, 16);
                    due("chains() to the right, all FAULTY, H " + h, m.chains(), h);
                    m.sides(2);
                    due("chains() up, all FAULTY, W " + w, m.chains(), w);
                    m.sides(0);
                    due("chains(), no SIDE open", m.chains(), 0);
                    m.sides(15);
                    int inner = Math.max(0, h - 2) * Math.max(0, w - 2);
                    due("chains(), all SIDES open", m.chains(), h * w - inner);
                }
            }
            Twins.tells(Twins.CRAMMED, "chains()", GridMender::chains, 24);
            Twins.tells(Twins.FRESH, "chains()", GridMender::chains, 0);
        });
        sentence(22, "The CUT, as bits by numbers.", () -> {
            due("cut() of a new object", new GridMender().cut(), 0);
            for (int number = 0; number < 49; number++) {
                GridMender m = new GridMender();
                m.grid(7, 7);
                m.fault(number % 7, number / 7);
                due("cut() of " + number, m.cut(), 1L << number);
            }
            GridMender all = new GridMender();
            all.grid(7, 7);
            all.lots(1, 16);
            long right = 0;
            for (int y = 0; y < 7; y++) {
                right |= 1L << 7 * y + 6;
            }
            due("cut() of the right SIDE", all.cut(), right);
            all.sides(0);
            due("cut(), no SIDE open", all.cut(), 0);
            Twins.tells(Twins.CRAMMED, "cut()", GridMender::cut, (1L << 49) - 1 ^ innerOfSeven());
        });
    }

    private static long innerOfSeven() {
        long inner = 0;
        for (int y = 1; y < 6; y++) {
            inner |= 31L << 7 * y + 1;
        }
        return inner;
    }
}
