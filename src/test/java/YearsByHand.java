/** Years done on an object by hand, with draws of their own: what the object's own years must tell. */
final class YearsByHand {
    private long g;

    private YearsByHand(int seed) {
        g = seed;
    }

    private int draw(int below) {
        g = (g * 1103515245L + 12345L) % 2147483648L;
        return (int) (g / 65536L % below);
    }

    /** Cost, hours that were none and meetings; the object is so many days further then. */
    static int[] sums(HillClock byHand, int seed, int days) {
        YearsByHand years = new YearsByHand(seed);
        int[] sums = new int[3];
        int hours = byHand.count(2);
        int walkers = byHand.count(1);
        for (int d = 0; d < days; d++) {
            years.drawDay(byHand, walkers);
            for (int h = 0; h < hours; h++) {
                sums[1] += byHand.hour(h, 3) == -1 ? 1 : 0;
            }
            for (int w = 0; w < walkers; w++) {
                for (int o = 0; o < w; o++) {
                    sums[2] += byHand.meet(w, o, 0) >= 0 ? 1 : 0;
                }
            }
            sums[0] += byHand.day();
        }
        return sums;
    }

    private void drawDay(HillClock byHand, int walkers) {
        if (draw(8) == 0) {
            byHand.snow();
        }
        for (int w = 0; w < walkers; w++) {
            if (draw(4) == 0) {
                byHand.late(w, draw(30));
            }
        }
    }
}
