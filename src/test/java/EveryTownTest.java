import java.util.ArrayList;
import java.util.List;

/**
 * Small towns without a gap, and great ones of many shapes: each is asked every question with every argument,
 * and the model is asked the same.
 */
public final class EveryTownTest {
    /** An object is used for fewer calls than this; then the same town is built anew. */
    private static final int CALLS = 512;
    private static final int FAULTS = 20;

    private static long seed = 20261120L;

    private final String name;
    private final int many;
    private final List<int[]> roads;
    private PartingRoads program;
    private Model model;
    private int calls = CALLS;

    private EveryTownTest(String name, int many, List<int[]> roads) {
        this.name = name;
        this.many = many;
        this.roads = roads;
    }

    public static void main(String[] args) {
        everyRowOfRoads(2, 5);
        everyRowOfRoads(3, 5);
        everyRowOfRoads(4, 4);
        everySetOfRoads(5);
        for (int town = 0; town < 20; town++) {
            greatTown(town);
        }
        Due.end();
    }

    /** The roads may lie beside one another, and each order of them is a town of its own. */
    private static void everyRowOfRoads(int many, int mostRoads) {
        List<int[]> pairs = pairs(many);
        int rows = 1;
        for (int count = 0; count <= mostRoads; count++) {
            for (int row = 0; row < rows; row++) {
                List<int[]> roads = new ArrayList<>();
                for (int left = 0, rest = row; left < count; left++, rest /= pairs.size()) {
                    addRoad(roads, pairs.get(rest % pairs.size()));
                }
                new EveryTownTest("row " + row + " of " + count + " roads", many, roads).askAll();
            }
            rows *= pairs.size();
        }
    }

    private static void everySetOfRoads(int many) {
        List<int[]> pairs = pairs(many);
        for (int set = 0; set < 1 << pairs.size(); set++) {
            List<int[]> roads = new ArrayList<>();
            for (int pair = 0; pair < pairs.size(); pair++) {
                if ((set >> pair & 1) != 0) {
                    addRoad(roads, pairs.get(pair));
                }
            }
            new EveryTownTest("set " + set + " of roads", many, roads).askAll();
        }
    }

    private static List<int[]> pairs(int many) {
        List<int[]> pairs = new ArrayList<>();
        for (int lower = 0; lower < many; lower++) {
            for (int higher = lower + 1; higher < many; higher++) {
                // Some roads are built from their higher square, so that both directions come up.
                pairs.add((lower + higher) % 2 == 0 ? new int[] {higher, lower} : new int[] {lower, higher});
            }
        }
        return pairs;
    }

    /** Few unlike lengths, so that sums are often the same. */
    private static void addRoad(List<int[]> roads, int[] pair) {
        roads.add(new int[] {pair[0], pair[1], 1 + roads.size() * roads.size() % 3});
    }

    /** A forest with so many roads left out of a tree, and so many more roads for rings, its squares shuffled. */
    private static void greatTown(int town) {
        int many = 16 - town % 3;
        int leftOut = town % 4;
        int more = Math.min(town / 4 * 3, 30 - (many - 1 - leftOut));
        int[] square = shuffled(many);
        List<int[]> roads = new ArrayList<>();
        for (int place = 1 + leftOut; place < many; place++) {
            // A near square makes long ways, a far one makes bushes.
            int to = town % 2 == 0 ? below(place) : Math.max(0, place - 1 - below(2));
            roads.add(new int[] {square[place], square[to], 1 + below(99)});
        }
        while (more > 0) {
            int one = below(many);
            int other = (one + 1 + below(2)) % many;
            roads.add(below(roads.size() + 1), new int[] {square[one], square[other], 1 + below(99)});
            more--;
        }
        new EveryTownTest("great town " + town, many, roads).askAll();
    }

    private static int[] shuffled(int many) {
        int[] squares = new int[many];
        for (int place = 0; place < many; place++) {
            int other = below(place + 1);
            squares[place] = squares[other];
            squares[other] = place;
        }
        return squares;
    }

    private static int below(int bound) {
        seed = seed * 6364136223846793005L + 1442695040888963407L;
        return (int) ((seed >>> 33) % bound);
    }

    private void askAll() {
        if (Due.wrong() >= FAULTS) {
            return;
        }
        buildIfUsedUp();
        askOfSquaresAndRoads();
        for (int one = 0; one < many; one++) {
            for (int other = 0; other < many; other++) {
                askOfTwoSquares(one, other);
            }
        }
        askOfTheTown();
    }

    private void askOfSquaresAndRoads() {
        for (int road = 0; road < roads.size(); road++) {
            for (int what = 0; what < 6; what++) {
                ask("road", program().road(road, what), model.road(road, what), road, what);
            }
            for (int square = 0; square < many; square++) {
                ask("cutOff", program().cutOff(square, road), model.cutOff(square, road), square, road);
            }
        }
        for (int square = 0; square < many; square++) {
            for (int what = 0; what < 5; what++) {
                ask("square", program().square(square, what), model.square(square, what), square, what);
            }
            for (int what = 0; what < 4; what++) {
                ask("district", program().district(square, what), model.district(square, what), square, what);
            }
            ask("needed", program().needed(square), model.needed(square), square);
        }
    }

    private void askOfTwoSquares(int one, int other) {
        for (int what = 0; what < 3; what++) {
            ask("way", program().way(one, other, what), model.way(one, other, what), one, other, what);
            ask("ifBuilt", program().ifBuilt(one, other, what), model.ifBuilt(one, other, what), one, other, what);
        }
        int places = Math.max(0, model.way(one, other, 1));
        for (int place = 0; place <= places; place++) {
            ask("must", program().must(one, other, place), model.must(one, other, place), one, other, place);
        }
    }

    private void askOfTheTown() {
        for (int what = 0; what < 9; what++) {
            ask("count", program().count(what), model.count(what), what);
        }
        for (int what = 0; what < 3; what++) {
            ask("bestBuilt", program().bestBuilt(what), model.bestBuilt(what), what);
            ask("worstLoss", program().worstLoss(what), model.worstLoss(what), what);
        }
    }

    private PartingRoads program() {
        buildIfUsedUp();
        calls++;
        return program;
    }

    private void buildIfUsedUp() {
        if (calls < CALLS) {
            return;
        }
        program = new PartingRoads();
        model = new Model();
        calls = 0;
        ask("squares", program().squares(many), model.squares(many), many);
        for (int[] road : roads) {
            ask("build", program().build(road[0], road[1], road[2]), model.build(road[0], road[1], road[2]), road);
        }
    }

    private void ask(String call, int got, int due, int... arguments) {
        if (got == due) {
            Due.is("", 0, 0);
            return;
        }
        StringBuilder town = new StringBuilder();
        for (int[] road : roads) {
            town.append(road[0]).append('-').append(road[1]).append(':').append(road[2]).append(' ');
        }
        Due.is(name + ", " + many + " squares, " + town + "- " + call + java.util.Arrays.toString(arguments), got, due);
    }
}
