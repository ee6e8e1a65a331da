import java.util.ArrayDeque;
import java.util.ArrayList;
import java.util.List;
import java.util.function.IntPredicate;
import java.util.regex.Pattern;

/**
 * The document once more, by its definitions alone: nothing is kept but the roads, and every answer is
 * found by taking roads and squares away, or adding them, and counting again.
 */
final class Model {
    static final int NO_SUCH = -1, BAD_VALUE = -2, BAD_TEXT = -3, TOO_MANY = -4, NOT_POSSIBLE = -5, NONE = -6;

    private static final Pattern WHOLE =
            Pattern.compile("(1[0-5]|[0-9])-(1[0-5]|[0-9]):[1-9][0-9]?(;(1[0-5]|[0-9])-(1[0-5]|[0-9]):[1-9][0-9]?)*");
    private static final String[] ENDINGS = {"", "1", ":1", "0:1", "-0:1", "0-0:1"};

    record Road(int lower, int higher, int length) {}

    record State(int squares, List<Road> roads) {}

    private State now = new State(8, List.of());
    private final List<State> history = new ArrayList<>();
    private final State[] slots = new State[2];
    private String pad = "";

    private int many() {
        return now.squares();
    }

    private List<Road> roads() {
        return now.roads();
    }

    private boolean noSquare(int square) {
        return square < 0 || square >= many();
    }

    private boolean noRoad(int road) {
        return road < 0 || road >= roads().size();
    }

    private void change(State next) {
        history.add(now);
        if (history.size() > 6) {
            history.remove(0);
        }
        now = next;
    }

    private static List<Road> with(List<Road> roads, int one, int other, int length) {
        List<Road> more = new ArrayList<>(roads);
        more.add(new Road(Math.min(one, other), Math.max(one, other), length));
        return more;
    }

    private static List<Road> without(List<Road> roads, int lost) {
        List<Road> fewer = new ArrayList<>(roads);
        fewer.remove(lost);
        return fewer;
    }

    /** The mark of each square's piece; -1 for squares that are left out. */
    private int[] marks(List<Road> roads, IntPredicate squareStays) {
        int[] mark = new int[many()];
        for (int square = 0; square < many(); square++) {
            mark[square] = squareStays.test(square) ? square : -1;
        }
        for (Road road : roads) {
            int kept = mark[road.lower()];
            int gone = mark[road.higher()];
            if (kept >= 0 && gone >= 0 && kept != gone) {
                for (int square = 0; square < many(); square++) {
                    if (mark[square] == gone) {
                        mark[square] = kept;
                    }
                }
            }
        }
        return mark;
    }

    private int[] marks(List<Road> roads) {
        return marks(roads, square -> true);
    }

    private static int unlike(int[] marks, int leftOut) {
        int found = 0;
        for (int square = 0; square < marks.length; square++) {
            boolean first = marks[square] >= 0 && square != leftOut;
            for (int before = 0; before < square && first; before++) {
                first = before == leftOut || marks[before] != marks[square];
            }
            found += first ? 1 : 0;
        }
        return found;
    }

    private int pieces(List<Road> roads) {
        return unlike(marks(roads), -1);
    }

    private boolean parts(List<Road> roads, int road) {
        return pieces(without(roads, road)) == pieces(roads) + 1;
    }

    private int parting(List<Road> roads) {
        int found = 0;
        for (int road = 0; road < roads.size(); road++) {
            found += parts(roads, road) ? 1 : 0;
        }
        return found;
    }

    private int[] districtMarks(List<Road> roads) {
        List<Road> firm = new ArrayList<>();
        for (int road = 0; road < roads.size(); road++) {
            if (!parts(roads, road)) {
                firm.add(roads.get(road));
            }
        }
        return marks(firm);
    }

    /** The districts as sets, by their lowest squares. */
    private List<Integer> districts() {
        int[] marks = districtMarks(roads());
        List<Integer> sets = new ArrayList<>();
        for (int square = 0; square < many(); square++) {
            int set = setOf(marks, marks[square]);
            if (!sets.contains(set)) {
                sets.add(set);
            }
        }
        return sets;
    }

    private static int setOf(int[] marks, int mark) {
        int set = 0;
        for (int square = 0; square < marks.length; square++) {
            set |= marks[square] == mark ? 1 << square : 0;
        }
        return set;
    }

    private int pieceOf(List<Road> roads, int square) {
        int[] marks = marks(roads);
        return setOf(marks, marks[square]);
    }

    private static boolean has(int set, int square) {
        return (set & 1 << square) != 0;
    }

    private int pairs(List<Road> roads) {
        int[] marks = marks(roads);
        int found = 0;
        for (int one = 0; one < many(); one++) {
            for (int other = one + 1; other < many(); other++) {
                found += marks[one] == marks[other] ? 1 : 0;
            }
        }
        return found;
    }

    int squares(int squares) {
        if (squares < 2 || squares > 16) return BAD_VALUE;
        for (Road road : roads()) {
            if (road.higher() >= squares) return NOT_POSSIBLE;
        }
        int before = many();
        change(new State(squares, roads()));
        return before;
    }

    int build(int one, int other, int length) {
        if (noSquare(one) || noSquare(other)) return NO_SUCH;
        if (one == other || length < 1 || length > 99) return BAD_VALUE;
        if (roads().size() == 30) return TOO_MANY;
        change(new State(many(), with(roads(), one, other, length)));
        return pieces(roads());
    }

    int lose(int road) {
        if (noRoad(road)) return NO_SUCH;
        change(new State(many(), without(roads(), road)));
        return pieces(roads());
    }

    int read() {
        if (fault() != NONE) return BAD_TEXT;
        List<int[]> found = new ArrayList<>();
        for (String road : pad.split(";")) {
            String[] numbers = road.split("[-:]");
            found.add(new int[] {Integer.parseInt(numbers[0]), Integer.parseInt(numbers[1]), Integer.parseInt(numbers[2])});
        }
        if (found.stream().anyMatch(road -> noSquare(road[0]) || noSquare(road[1]))) return NO_SUCH;
        if (found.stream().anyMatch(road -> road[0] == road[1])) return BAD_VALUE;
        if (roads().size() + found.size() > 30) return TOO_MANY;
        List<Road> more = roads();
        for (int[] road : found) {
            more = with(more, road[0], road[1], road[2]);
        }
        change(new State(many(), more));
        pad = "";
        return roads().size();
    }

    int road(int road, int what) {
        if (noRoad(road)) return NO_SUCH;
        Road asked = roads().get(road);
        return switch (what) {
            case 0 -> asked.lower();
            case 1 -> asked.higher();
            case 2 -> asked.length();
            case 3 -> parts(roads(), road) ? 1 : 0;
            case 4 -> leastRing(road);
            case 5 -> pairs(roads()) - pairs(without(roads(), road));
            default -> BAD_VALUE;
        };
    }

    private int leastRing(int road) {
        Road asked = roads().get(road);
        int[] squaresTo = new int[many()];
        squaresTo[asked.lower()] = 1;
        ArrayDeque<Integer> ahead = new ArrayDeque<>(List.of(asked.lower()));
        while (!ahead.isEmpty()) {
            int from = ahead.remove();
            for (Road next : without(roads(), road)) {
                if (next.lower() == from || next.higher() == from) {
                    int to = next.lower() + next.higher() - from;
                    if (squaresTo[to] == 0) {
                        squaresTo[to] = squaresTo[from] + 1;
                        ahead.add(to);
                    }
                }
            }
        }
        return squaresTo[asked.higher()] == 0 ? NONE : squaresTo[asked.higher()];
    }

    private int roadsAt(int square) {
        return (int) roads().stream().filter(road -> road.lower() == square || road.higher() == square).count();
    }

    private int moreWithout(int square) {
        if (roadsAt(square) == 0) return 0;
        return unlike(marks(roads(), other -> other != square), -1) - unlike(marks(roads()), square);
    }

    int square(int square, int what) {
        if (noSquare(square)) return NO_SUCH;
        int[] marks = districtMarks(roads());
        return switch (what) {
            case 0 -> roadsAt(square);
            case 1 -> unlike(marks(roads(), other -> other != square), -1) > unlike(marks(roads()), square) ? 1 : 0;
            case 2 -> districts().indexOf(setOf(marks, marks[square]));
            case 3 -> pieceOf(roads(), square);
            case 4 -> moreWithout(square);
            default -> BAD_VALUE;
        };
    }

    private List<Road> within(int set) {
        return roads().stream().filter(road -> has(set, road.lower()) && has(set, road.higher())).toList();
    }

    private int sum(List<Road> roads) {
        return roads.stream().mapToInt(Road::length).sum();
    }

    private int partingOut(int set) {
        return (int) roads().stream().filter(road -> has(set, road.lower()) != has(set, road.higher())).count();
    }

    int district(int district, int what) {
        List<Integer> sets = districts();
        if (district < 0 || district >= sets.size()) return NO_SUCH;
        int set = sets.get(district);
        return switch (what) {
            case 0 -> set;
            case 1 -> sum(within(set));
            case 2 -> partingOut(set);
            case 3 -> within(set).size() - Integer.bitCount(set) + 1;
            default -> BAD_VALUE;
        };
    }

    int count(int what) {
        return switch (what) {
            case 0 -> many();
            case 1 -> roads().size();
            case 2 -> pieces(roads());
            case 3 -> parting(roads());
            case 4 -> partingSquares();
            case 5 -> districts().size();
            case 6 -> longestDistrict();
            case 7 -> sum(roads());
            case 8 -> pad.length();
            case 9 -> history.size();
            default -> BAD_VALUE;
        };
    }

    private int partingSquares() {
        int found = 0;
        for (int square = 0; square < many(); square++) {
            found += square(square, 1);
        }
        return found;
    }

    private int longestDistrict() {
        int longest = 0;
        for (int district = 0; district < districts().size(); district++) {
            longest = district(district, 1) > district(longest, 1) ? district : longest;
        }
        return longest;
    }

    private boolean apart(int one, int other) {
        return !has(pieceOf(roads(), one), other);
    }

    int way(int one, int other, int what) {
        if (noSquare(one) || noSquare(other)) return NO_SUCH;
        if (what < 0 || what > 2) return BAD_VALUE;
        if (apart(one, other)) return NONE;
        return what == 0 ? leastLength(one, other) : mustRoads(one, other).size() + what - 1;
    }

    private int leastLength(int one, int other) {
        int[][] least = new int[many()][many()];
        for (int from = 0; from < many(); from++) {
            for (int to = 0; to < many(); to++) {
                least[from][to] = from == to ? 0 : 1_000_000;
            }
        }
        for (Road road : roads()) {
            least[road.lower()][road.higher()] = Math.min(least[road.lower()][road.higher()], road.length());
            least[road.higher()][road.lower()] = least[road.lower()][road.higher()];
        }
        for (int over = 0; over < many(); over++) {
            for (int from = 0; from < many(); from++) {
                for (int to = 0; to < many(); to++) {
                    least[from][to] = Math.min(least[from][to], least[from][over] + least[over][to]);
                }
            }
        }
        return least[one][other];
    }

    /** Of one way from the one to the other, the roads whose loss would leave no way. */
    private List<Integer> mustRoads(int one, int other) {
        List<Integer> way = new ArrayList<>();
        if (!walk(one, other, 0, way)) return List.of();
        return way.stream().filter(road -> !has(pieceOf(without(roads(), road), one), other)).toList();
    }

    private boolean walk(int at, int goal, int seen, List<Integer> way) {
        if (at == goal) return true;
        for (int road = 0; road < roads().size(); road++) {
            Road next = roads().get(road);
            if (next.lower() != at && next.higher() != at) continue;
            int to = next.lower() + next.higher() - at;
            // A square from which the goal can't be reached without the squares behind is no step.
            if (has(seen | 1 << at, to) || !reaches(to, goal, seen | 1 << at)) continue;
            way.add(road);
            return walk(to, goal, seen | 1 << at, way);
        }
        return false;
    }

    private boolean reaches(int from, int goal, int shut) {
        int[] marks = marks(roads(), square -> !has(shut, square));
        return marks[from] == marks[goal];
    }

    int must(int one, int other, int place) {
        if (noSquare(one) || noSquare(other)) return NO_SUCH;
        if (place < 0) return BAD_VALUE;
        List<Integer> roads = mustRoads(one, other);
        return place < roads.size() ? roads.get(place) : NONE;
    }

    int cutOff(int square, int road) {
        if (noSquare(square) || noRoad(road)) return NO_SUCH;
        return pieceOf(roads(), square) & ~pieceOf(without(roads(), road), square);
    }

    int ifBuilt(int one, int other, int what) {
        if (noSquare(one) || noSquare(other)) return NO_SUCH;
        if (one == other || what < 0 || what > 2) return BAD_VALUE;
        List<Road> more = with(roads(), one, other, 1);
        if (what == 1) return unlike(districtMarks(more), -1);
        if (what == 2) return pieces(more);
        int found = 0;
        for (int road = 0; road < roads().size(); road++) {
            found += parts(roads(), road) && !parts(more, road) ? 1 : 0;
        }
        return found;
    }

    int bestBuilt(int what) {
        if (what < 0 || what > 2) return BAD_VALUE;
        int[] best = null;
        for (int lower = 0; lower < many(); lower++) {
            for (int higher = lower + 1; higher < many(); higher++) {
                int parting = parting(with(roads(), lower, higher, 1));
                if (best == null || parting < best[2]) {
                    best = new int[] {lower, higher, parting};
                }
            }
        }
        return best[what];
    }

    int worstLoss(int what) {
        if (what < 0 || what > 1) return BAD_VALUE;
        if (roads().isEmpty()) return NONE;
        int worst = 0;
        for (int road = 0; road < roads().size(); road++) {
            worst = road(road, 5) > road(worst, 5) ? road : worst;
        }
        return what == 0 ? worst : road(worst, 5);
    }

    int needed(int square) {
        if (noSquare(square)) return NO_SUCH;
        int piece = pieceOf(roads(), square);
        int ends = (int) districts().stream().filter(set -> (set & piece) == set && partingOut(set) == 1).count();
        return ends / 2 + ends % 2;
    }

    int put(long characters) {
        StringBuilder text = new StringBuilder();
        for (int shift = 56; shift >= 0; shift -= 8) {
            int code = (int) (characters >>> shift & 255);
            if (code == 0 && text.length() == 0) continue;
            if (code < 33 || code > 126) return BAD_VALUE;
            text.append((char) code);
        }
        if (text.length() == 0) return BAD_VALUE;
        if (pad.length() + text.length() > 80) return TOO_MANY;
        pad += text;
        return pad.length();
    }

    int wipe() {
        int before = pad.length();
        pad = "";
        return before;
    }

    int fault() {
        for (int length = 1; length <= pad.length(); length++) {
            if (!canStand(pad.substring(0, length))) return length - 1;
        }
        return WHOLE.matcher(pad).matches() ? NONE : pad.length();
    }

    private static boolean canStand(String beginning) {
        for (String ending : ENDINGS) {
            if (WHOLE.matcher(beginning + ending).matches()) return true;
        }
        return false;
    }

    int undo() {
        if (history.isEmpty()) return NOT_POSSIBLE;
        now = history.remove(history.size() - 1);
        return history.size();
    }

    int save(int slot) {
        if (slot < 0 || slot > 1) return BAD_VALUE;
        slots[slot] = now;
        return roads().size();
    }

    int restore(int slot) {
        if (slot < 0 || slot > 1) return BAD_VALUE;
        if (slots[slot] == null) return NOT_POSSIBLE;
        change(slots[slot]);
        return roads().size();
    }
}
