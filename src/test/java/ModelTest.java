/**
 * Long runs of calls, each answered by the program and by the model, with all questions that have few
 * arguments asked now and then. The runs come from a counted-on number and are the same each time.
 */
public final class ModelTest {
    private static final int CALLS = 512;
    private static final int RUNS = 300;

    private static long seed = 20260101L;

    private PartingRoads program = new PartingRoads();
    private Model model = new Model();
    private int calls = 0;
    private final int run;

    private ModelTest(int run) {
        this.run = run;
    }

    public static void main(String[] args) {
        for (int run = 0; run < RUNS && Due.wrong() < 20; run++) {
            new ModelTest(run).go();
        }
        Due.end();
    }

    private static int below(int bound) {
        seed = seed * 6364136223846793005L + 1442695040888963407L;
        return (int) ((seed >>> 33) % bound);
    }

    private static int from(int least, int greatest) {
        return least + below(greatest - least + 1);
    }

    private void go() {
        // Most runs start with a size of their own, so that small and great towns come up alike.
        if (run % 4 != 0) {
            int many = from(2, 16);
            same("squares(" + many + ")", program.squares(many), model.squares(many));
        }
        int losses = from(1, 4);
        while (calls < CALLS && Due.wrong() < 20) {
            step(below(100), losses);
        }
    }

    private void same(String call, int got, int want) {
        calls++;
        Due.is("run " + run + ", call " + calls + ": " + call, got, want);
    }

    private int someSquare() {
        return below(40) == 0 ? odd() : below(Math.max(2, model.count(0)));
    }

    private int someRoad() {
        return below(40) == 0 ? odd() : below(Math.max(1, model.count(1)));
    }

    private int someWhat(int many) {
        return below(40) == 0 ? odd() : below(many);
    }

    private int odd() {
        int[] values = {-1, 2, 3, 4, 5, 6, 10, 16, 30, 31, 32, 33, 64, 1000, Integer.MIN_VALUE, Integer.MAX_VALUE};
        return values[below(values.length)];
    }

    private void step(int kind, int losses) {
        if (kind < 14) {
            int one = someSquare();
            int other = someSquare();
            int length = below(30) == 0 ? from(-1, 101) : from(1, 99);
            same("build(" + one + ", " + other + ", " + length + ")", program.build(one, other, length), model.build(one, other, length));
        } else if (kind < 14 + losses) {
            int road = someRoad();
            same("lose(" + road + ")", program.lose(road), model.lose(road));
        } else if (kind < 20) {
            keep(below(6));
        } else if (kind < 30) {
            text(below(6));
        } else if (kind < 35) {
            everyNumber();
        } else {
            ask(below(11));
        }
    }

    private void keep(int kind) {
        int slot = below(20) == 0 ? odd() : below(2);
        int many = below(10) == 0 ? odd() : from(1, 17);
        switch (kind) {
            case 0, 1 -> same("undo()", program.undo(), model.undo());
            case 2 -> same("save(" + slot + ")", program.save(slot), model.save(slot));
            case 3 -> same("restore(" + slot + ")", program.restore(slot), model.restore(slot));
            default -> same("squares(" + many + ")", program.squares(many), model.squares(many));
        }
    }

    private void text(int kind) {
        switch (kind) {
            case 0 -> same("wipe()", program.wipe(), model.wipe());
            case 1 -> same("read()", program.read(), model.read());
            case 2 -> put(oddCharacters());
            case 3 -> put(Due.packed(String.valueOf("0123456789-:;".charAt(below(13)))));
            default -> putRoad();
        }
        same("fault()", program.fault(), model.fault());
    }

    private void putRoad() {
        StringBuilder road = new StringBuilder();
        road.append(model.count(8) > 0 && below(10) > 0 ? ";" : "");
        int bound = below(4) == 0 ? 17 : model.count(0);
        road.append(below(bound)).append('-').append(below(bound)).append(':').append(below(15) == 0 ? from(0, 100) : from(1, 9));
        if (road.length() > 8) {
            put(Due.packed(road.substring(0, 8)));
            put(Due.packed(road.substring(8)));
        } else {
            put(Due.packed(road.toString()));
        }
    }

    private void put(long characters) {
        same("put(" + characters + ")", program.put(characters), model.put(characters));
    }

    private static long oddCharacters() {
        long[] values = {0, 1, 32, 33, 126, 127, 128, 255, 256, 48L << 8, 48L << 16 | 48, -1, Long.MIN_VALUE, 0x7e7e7e7e7e7e7e7eL,
            0x2121212121212121L, 0x8030303030303030L, 0x3030303030303000L, 0x3000303030303030L, 0x0030303030303020L};
        return values[below(values.length)];
    }

    private void everyNumber() {
        int[] whats = {0, 1, 2, 3, 4, 5, 6, 7, 8, 9, below(20) == 0 ? odd() : 0};
        for (int what : whats) {
            if (calls < CALLS) {
                same("count(" + what + ")", program.count(what), model.count(what));
            }
        }
    }

    private void ask(int kind) {
        int one = someSquare();
        int other = someSquare();
        int road = someRoad();
        switch (kind) {
            case 0, 1 -> {
                int what = someWhat(6);
                same("road(" + road + ", " + what + ")", program.road(road, what), model.road(road, what));
            }
            case 2 -> {
                int what = someWhat(5);
                same("square(" + one + ", " + what + ")", program.square(one, what), model.square(one, what));
            }
            case 3 -> {
                int what = someWhat(4);
                same("district(" + one + ", " + what + ")", program.district(one, what), model.district(one, what));
            }
            case 4 -> {
                int what = someWhat(3);
                same("way(" + one + ", " + other + ", " + what + ")", program.way(one, other, what), model.way(one, other, what));
            }
            case 5, 6 -> {
                int place = below(20) == 0 ? odd() : below(5);
                same("must(" + one + ", " + other + ", " + place + ")", program.must(one, other, place), model.must(one, other, place));
            }
            case 7 -> same("cutOff(" + one + ", " + road + ")", program.cutOff(one, road), model.cutOff(one, road));
            case 8 -> {
                int what = someWhat(3);
                same("ifBuilt(" + one + ", " + other + ", " + what + ")", program.ifBuilt(one, other, what), model.ifBuilt(one, other, what));
            }
            case 9 -> {
                int what = someWhat(3);
                same("bestBuilt(" + what + ")", program.bestBuilt(what), model.bestBuilt(what));
            }
            default -> {
                int what = someWhat(2);
                same("worstLoss(" + what + ")", program.worstLoss(what), model.worstLoss(what));
                same("needed(" + one + ")", program.needed(one), model.needed(one));
            }
        }
    }
}
