/** Numbers that a counter draws: the same ones each time for the same seed. */
final class Draw {
    private long seed;

    Draw(long seed) {
        this.seed = seed;
    }

    long word() {
        seed += 0x9E3779B97F4A7C15L;
        long mixed = (seed ^ seed >>> 30) * 0xBF58476D1CE4E5B9L;
        mixed = (mixed ^ mixed >>> 27) * 0x94D049BB133111EBL;
        return mixed ^ mixed >>> 31;
    }

    int below(int bound) {
        return (int) Long.remainderUnsigned(word(), bound);
    }

    boolean oneIn(int times) {
        return below(times) == 0;
    }

    char of(String signs) {
        return signs.charAt(below(signs.length()));
    }

    int of(int... numbers) {
        return numbers[below(numbers.length)];
    }

    /** A number from the least to the greatest, the edges and what is just behind them often. */
    int number(int least, int greatest) {
        switch (below(25)) {
            case 0: return least - 1;
            case 1: return greatest + 1;
            case 2: case 3: return least;
            case 4: case 5: return greatest;
            default: return least + below(greatest - least + 1);
        }
    }
}
