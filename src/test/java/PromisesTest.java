/** Each promise of the document: ordinary inputs, the edges that it names, and wrong inputs in their order. */
public final class PromisesTest {
    private static final int NO_SUCH = -1, BAD_VALUE = -2, BAD_TEXT = -3, TOO_MANY = -4, NOT_POSSIBLE = -5, NONE = -6;
    private static final int LOW = Towns.LOW;
    private static final int HIGH = Towns.HIGH;

    private PromisesTest() {}

    public static void main(String[] args) {
        promise01NewObject();
        promise02Squares();
        promise03Build();
        promise04Lose();
        promise05Read();
        promise05ReadErrorsInOrder();
        promise06Road();
        promise07Square();
        promise08District();
        promise09Count();
        promise10Way();
        promise11Must();
        promise12CutOff();
        promise13IfBuilt();
        promise14BestBuilt();
        promise15WorstLoss();
        promise16Needed();
        promise17Put();
        promise18Wipe();
        promise19Fault();
        promise20Undo();
        promise20UndoEachChange();
        promise21Save();
        promise22Restore();
        errorsChangeNothing();
        Due.end();
    }

    private static PartingRoads fullOfRoads() {
        PartingRoads x = new PartingRoads();
        for (int road = 0; road < 30; road++) {
            Due.is("full: build", x.build(road % 2, 2, 5), road == 0 ? 7 : 6);
        }
        return x;
    }

    private static void promise01NewObject() {
        PartingRoads x = new PartingRoads();
        int[] due = {8, 0, 8, 0, 0, 8, 0, 0, 0, 0};
        for (int what = 0; what < due.length; what++) {
            Due.is("1: new, count(" + what + ")", x.count(what), due[what]);
        }
        for (int square = 0; square < 8; square++) {
            Due.is("1: new, square(" + square + ", 0)", x.square(square, 0), 0);
            Due.is("1: new, square(" + square + ", 2)", x.square(square, 2), square);
            Due.is("1: new, square(" + square + ", 3)", x.square(square, 3), 1 << square);
        }
        Due.is("1: new, fault()", x.fault(), 0);
        Due.is("1: new, undo()", x.undo(), NOT_POSSIBLE);
        Due.is("1: new, restore(0)", x.restore(0), NOT_POSSIBLE);
        Due.is("1: new, restore(1)", x.restore(1), NOT_POSSIBLE);
        PartingRoads other = new PartingRoads();
        other.build(0, 1, 1);
        Due.is("1: another object's road", x.count(1), 0);
    }

    private static void promise02Squares() {
        PartingRoads x = new PartingRoads();
        Due.is("2: squares(16)", x.squares(16), 8);
        Due.is("2: pieces of 16", x.count(2), 16);
        Due.is("2: districts of 16", x.count(5), 16);
        Due.is("2: squares(2)", x.squares(2), 16);
        Due.is("2: squares(2) again", x.squares(2), 2);
        Due.is("2: changes", x.count(9), 3);
        for (int wrong : new int[] {1, 0, -1, 17, LOW, HIGH}) {
            Due.is("2: squares(" + wrong + ")", x.squares(wrong), BAD_VALUE);
        }
        Due.is("2: changes after errors", x.count(9), 3);
        x.squares(12);
        x.build(9, 3, 1);
        Due.is("2: squares(9) with a road to 9", x.squares(9), NOT_POSSIBLE);
        Due.is("2: squares(1) with a road to 9", x.squares(1), BAD_VALUE);
        Due.is("2: squares(10) with a road to 9", x.squares(10), 12);
        Due.is("2: pieces of 10", x.count(2), 9);
        x.lose(0);
        Due.is("2: squares(9) after the loss", x.squares(9), 10);
    }

    private static void promise03Build() {
        PartingRoads x = new PartingRoads();
        Due.is("3: build(0, 7, 1)", x.build(0, 7, 1), 7);
        Due.is("3: build(7, 0, 99)", x.build(7, 0, 99), 7);
        Due.is("3: build(3, 7, 5)", x.build(3, 7, 5), 6);
        Due.is("3: road(2, 0)", x.road(2, 0), 3);
        Due.is("3: road(2, 1)", x.road(2, 1), 7);
        Due.is("3: build(8, 8, 0)", x.build(8, 8, 0), NO_SUCH);
        Due.is("3: build(-1, 0, 1)", x.build(-1, 0, 1), NO_SUCH);
        Due.is("3: build(0, 8, 0)", x.build(0, 8, 0), NO_SUCH);
        Due.is("3: build(LOW, HIGH, 1)", x.build(LOW, HIGH, 1), NO_SUCH);
        Due.is("3: build(1, 1, 1)", x.build(1, 1, 1), BAD_VALUE);
        for (int wrong : new int[] {0, -1, 100, LOW, HIGH}) {
            Due.is("3: build(1, 2, " + wrong + ")", x.build(1, 2, wrong), BAD_VALUE);
        }
        Due.is("3: roads after errors", x.count(1), 3);
        PartingRoads full = fullOfRoads();
        Due.is("3: full, build(0, 1, 1)", full.build(0, 1, 1), TOO_MANY);
        Due.is("3: full, build(0, 8, 1)", full.build(0, 8, 1), NO_SUCH);
        Due.is("3: full, build(0, 0, 1)", full.build(0, 0, 1), BAD_VALUE);
        Due.is("3: full, build(0, 1, 100)", full.build(0, 1, 100), BAD_VALUE);
        Due.is("3: full, roads", full.count(1), 30);
        full.lose(29);
        Due.is("3: the thirtieth road again", full.build(3, 4, 1), 5);
    }

    private static void promise04Lose() {
        PartingRoads x = Towns.row(5);
        Due.is("4: lose(4)", x.lose(4), NO_SUCH);
        Due.is("4: lose(-1)", x.lose(-1), NO_SUCH);
        Due.is("4: lose(HIGH)", x.lose(HIGH), NO_SUCH);
        Due.is("4: lose(LOW)", x.lose(LOW), NO_SUCH);
        Due.is("4: lose(1)", x.lose(1), 2);
        Due.is("4: roads", x.count(1), 3);
        Due.is("4: road(0, 2) stays", x.road(0, 2), 1);
        Due.is("4: road(1, 0) moved up", x.road(1, 0), 2);
        Due.is("4: road(1, 1) moved up", x.road(1, 1), 3);
        Due.is("4: road(1, 2) moved up", x.road(1, 2), 3);
        Due.is("4: road(2, 2) moved up", x.road(2, 2), 4);
        Due.is("4: lose(3)", x.lose(3), NO_SUCH);
        Due.is("4: lose(2)", x.lose(2), 3);
        PartingRoads full = fullOfRoads();
        Due.is("4: full, lose(0)", full.lose(0), 6);
        Due.is("4: full, road(28, 0)", full.road(28, 0), 1);
    }

    private static void promise05Read() {
        PartingRoads x = new PartingRoads();
        x.build(0, 1, 50);
        Due.is("5: pad", Due.putAll(x, "7-2:10;3-4:99"), 13);
        Due.is("5: read()", x.read(), 3);
        Due.is("5: the pad is empty", x.count(8), 0);
        int[] due = {2, 7, 10};
        for (int what = 0; what < due.length; what++) {
            Due.is("5: road(1, " + what + ")", x.road(1, what), due[what]);
        }
        Due.is("5: road(2, 0)", x.road(2, 0), 3);
        Due.is("5: road(2, 2)", x.road(2, 2), 99);
        Due.is("5: one change for all", x.count(9), 2);
        Due.is("5: pieces", x.count(2), 5);
        Due.is("5: undo()", x.undo(), 1);
        Due.is("5: roads after undo", x.count(1), 1);
        Due.is("5: the pad stays empty", x.count(8), 0);
        Due.is("5: read() of an empty pad", x.read(), BAD_TEXT);
        x.squares(16);
        Due.is("5: thirteen roads", Due.putAll(x, "0-1:1;0-1:1;0-1:1;0-1:1;0-1:1;0-1:1;0-1:1;0-1:1;0-1:1;0-1:1;0-1:1;0-1:1;0-15:99"), 79);
        Due.is("5: read() of thirteen roads", x.read(), 14);
        Due.is("5: road(13, 1)", x.road(13, 1), 15);
        Due.is("5: road(13, 2)", x.road(13, 2), 99);
    }

    private static void promise05ReadErrorsInOrder() {
        PartingRoads x = new PartingRoads();
        for (int road = 0; road < 29; road++) {
            x.build(0, 1, 1);
        }
        readFails(x, "0-0:1;8-1:1;0-1:", BAD_TEXT);
        readFails(x, "0-0:1;8-1:1", NO_SUCH);
        readFails(x, "0-0:1;1-8:1", NO_SUCH);
        readFails(x, "0-1:1;0-2:1;15-15:1", NO_SUCH);
        readFails(x, "0-1:1;0-2:1;3-3:1", BAD_VALUE);
        readFails(x, "0-1:1;0-2:1", TOO_MANY);
        Due.is("5: roads after errors", x.count(1), 29);
        Due.is("5: changes after errors", x.count(9), 6);
        Due.putAll(x, "0-2:1");
        Due.is("5: the thirtieth road", x.read(), 30);
        readFails(x, "0-1:1", TOO_MANY);
    }

    private static void readFails(PartingRoads x, String text, int due) {
        Due.putAll(x, text);
        Due.is("5: read() of " + text, x.read(), due);
        Due.is("5: the pad keeps " + text, x.wipe(), text.length());
    }

    private static void promise06Road() {
        PartingRoads x = Towns.twoRings();
        int[][] due = {
            {0, 1, 4, 0, 3, 0}, {1, 2, 5, 0, 3, 0}, {0, 2, 6, 0, 3, 0}, {2, 3, 7, 1, NONE, 15}, {3, 4, 1, 0, 4, 0},
            {4, 5, 2, 0, 4, 0}, {5, 6, 3, 0, 4, 0}, {3, 6, 4, 0, 4, 0}, {5, 7, 9, 1, NONE, 7}};
        for (int road = 0; road < due.length; road++) {
            for (int what = 0; what < 6; what++) {
                Due.is("6: road(" + road + ", " + what + ")", x.road(road, what), due[road][what]);
            }
        }
        x.build(7, 5, 1);
        Due.is("6: two roads, parts", x.road(8, 3), 0);
        Due.is("6: two roads, ring", x.road(8, 4), 2);
        Due.is("6: two roads, pairs", x.road(8, 5), 0);
        x.build(4, 6, 1);
        Due.is("6: the chord's ring", x.road(10, 4), 3);
        Due.is("6: a shorter ring by the chord", x.road(4, 4), 3);
        PartingRoads ring = Towns.row(16);
        ring.build(15, 0, 1);
        Due.is("6: a ring of 16", ring.road(15, 4), 16);
        Due.is("6: a ring of 16, road 0", ring.road(0, 4), 16);
        for (int wrong : new int[] {-1, 11, LOW, HIGH}) {
            Due.is("6: road(" + wrong + ", 0)", x.road(wrong, 0), NO_SUCH);
            Due.is("6: road(" + wrong + ", 9)", x.road(wrong, 9), NO_SUCH);
        }
        for (int wrong : new int[] {-1, 6, LOW, HIGH}) {
            Due.is("6: road(0, " + wrong + ")", x.road(0, wrong), BAD_VALUE);
        }
    }

    private static void promise07Square() {
        PartingRoads x = Towns.twoRings();
        int[][] due = {
            {2, 0, 0, 255, 0}, {2, 0, 0, 255, 0}, {3, 1, 0, 255, 1}, {3, 1, 1, 255, 1}, {2, 0, 1, 255, 0},
            {3, 1, 1, 255, 1}, {2, 0, 1, 255, 0}, {1, 0, 2, 255, 0}, {0, 0, 3, 256, 0}};
        for (int square = 0; square < due.length; square++) {
            for (int what = 0; what < 5; what++) {
                Due.is("7: square(" + square + ", " + what + ")", x.square(square, what), due[square][what]);
            }
        }
        PartingRoads star = new PartingRoads();
        star.squares(16);
        for (int square = 0; square < 15; square++) {
            star.build(square, 15, 1);
        }
        Due.is("7: the star's middle, roads", star.square(15, 0), 15);
        Due.is("7: the star's middle, pieces more", star.square(15, 4), 14);
        star.build(0, 15, 1);
        Due.is("7: two roads to one square", star.square(15, 0), 16);
        Due.is("7: two roads to one square, pieces more", star.square(15, 4), 14);
        // Two rings that share one square: no road parts, but the square does.
        PartingRoads eight = new PartingRoads();
        Due.putAll(eight, "0-1:1;1-2:1;2-0:1;2-3:1;3-4:1;4-2:1");
        eight.read();
        Due.is("7: the shared square parts", eight.square(2, 1), 1);
        Due.is("7: the shared square, pieces more", eight.square(2, 4), 1);
        Due.is("7: no road parts there", eight.count(3), 0);
        Due.is("7: square(4, 2)", eight.square(4, 2), 0);
        for (int wrong : new int[] {-1, 9, 16, LOW, HIGH}) {
            Due.is("7: square(" + wrong + ", 0)", x.square(wrong, 0), NO_SUCH);
            Due.is("7: square(" + wrong + ", 7)", x.square(wrong, 7), NO_SUCH);
        }
        for (int wrong : new int[] {-1, 5, LOW, HIGH}) {
            Due.is("7: square(0, " + wrong + ")", x.square(0, wrong), BAD_VALUE);
        }
    }

    private static void promise08District() {
        PartingRoads x = Towns.twoRings();
        int[][] due = {{7, 15, 1, 1}, {120, 10, 2, 1}, {128, 0, 1, 0}, {256, 0, 0, 0}};
        for (int district = 0; district < due.length; district++) {
            for (int what = 0; what < 4; what++) {
                Due.is("8: district(" + district + ", " + what + ")", x.district(district, what), due[district][what]);
            }
        }
        x.build(0, 1, 50);
        x.build(0, 7, 1);
        Due.is("8: joined, squares", x.district(0, 0), 255);
        Due.is("8: joined, lengths", x.district(0, 1), 92);
        Due.is("8: joined, roads out", x.district(0, 2), 0);
        Due.is("8: joined, rings", x.district(0, 3), 4);
        Due.is("8: joined, the next district", x.district(1, 0), 256);
        for (int wrong : new int[] {-1, 2, LOW, HIGH}) {
            Due.is("8: district(" + wrong + ", 0)", x.district(wrong, 0), NO_SUCH);
            Due.is("8: district(" + wrong + ", 4)", x.district(wrong, 4), NO_SUCH);
        }
        for (int wrong : new int[] {-1, 4, LOW, HIGH}) {
            Due.is("8: district(0, " + wrong + ")", x.district(0, wrong), BAD_VALUE);
        }
        // The order is that of the lowest squares, not of the roads.
        PartingRoads order = new PartingRoads();
        Due.putAll(order, "5-7:1;7-5:1;6-1:1;1-6:2");
        order.read();
        int[] sets = {1, 66, 4, 8, 16, 160};
        for (int district = 0; district < sets.length; district++) {
            Due.is("8: in order, district(" + district + ", 0)", order.district(district, 0), sets[district]);
        }
    }

    private static void promise09Count() {
        PartingRoads x = Towns.twoRings();
        x.put('1');
        int[] due = {9, 9, 2, 2, 3, 4, 0, 41, 1, 2};
        for (int what = 0; what < due.length; what++) {
            Due.is("9: count(" + what + ")", x.count(what), due[what]);
        }
        x.build(3, 4, 5);
        Due.is("9: as long, the lowest district", x.count(6), 0);
        x.build(3, 4, 1);
        Due.is("9: the second district is longer", x.count(6), 1);
        for (int wrong : new int[] {-1, 10, LOW, HIGH}) {
            Due.is("9: count(" + wrong + ")", x.count(wrong), BAD_VALUE);
        }
        PartingRoads full = fullOfRoads();
        Due.is("9: full, roads", full.count(1), 30);
        Due.is("9: full, lengths", full.count(7), 150);
    }

    private static void promise10Way() {
        PartingRoads x = Towns.twoRings();
        int[][] due = {{0, 7, 25, 2, 3}, {7, 0, 25, 2, 3}, {0, 1, 4, 0, 1}, {1, 6, 16, 1, 2}, {3, 3, 0, 0, 1}, {8, 8, 0, 0, 1}, {6, 7, 12, 1, 2}};
        for (int[] row : due) {
            for (int what = 0; what < 3; what++) {
                Due.is("10: way(" + row[0] + ", " + row[1] + ", " + what + ")", x.way(row[0], row[1], what), row[2 + what]);
            }
        }
        x.build(0, 1, 2);
        Due.is("10: the shorter of two roads", x.way(0, 1, 0), 2);
        x.build(2, 0, 1);
        Due.is("10: round about is shorter", x.way(1, 2, 0), 3);
        PartingRoads longest = new PartingRoads();
        longest.squares(16);
        for (int square = 15; square > 0; square--) {
            longest.build(square, square - 1, 99);
        }
        Due.is("10: the longest way there can be", longest.way(0, 15, 0), 1485);
        Due.is("10: the longest way back", longest.way(15, 0, 0), 1485);
        Due.is("10: the most roads", longest.way(0, 15, 1), 15);
        Due.is("10: the most districts", longest.way(0, 15, 2), 16);
        for (int what = 0; what < 3; what++) {
            Due.is("10: way(0, 8, " + what + ")", x.way(0, 8, what), NONE);
        }
        Due.is("10: way(0, 9, 3)", x.way(0, 9, 3), NO_SUCH);
        Due.is("10: way(-1, 0, 0)", x.way(-1, 0, 0), NO_SUCH);
        Due.is("10: way(9, 9, 0)", x.way(9, 9, 0), NO_SUCH);
        Due.is("10: way(LOW, HIGH, 0)", x.way(LOW, HIGH, 0), NO_SUCH);
        Due.is("10: way(0, 8, 3)", x.way(0, 8, 3), BAD_VALUE);
        Due.is("10: way(0, 0, -1)", x.way(0, 0, -1), BAD_VALUE);
        Due.is("10: way(0, 1, HIGH)", x.way(0, 1, HIGH), BAD_VALUE);
    }

    private static void promise11Must() {
        PartingRoads x = Towns.twoRings();
        int[][] due = {{0, 7, 3, 8, NONE}, {7, 0, 8, 3, NONE}, {0, 4, 3, NONE, NONE}, {0, 2, NONE, NONE, NONE}, {5, 7, 8, NONE, NONE}, {7, 7, NONE, NONE, NONE}, {0, 8, NONE, NONE, NONE}};
        for (int[] row : due) {
            for (int place = 0; place < 3; place++) {
                Due.is("11: must(" + row[0] + ", " + row[1] + ", " + place + ")", x.must(row[0], row[1], place), row[2 + place]);
            }
        }
        PartingRoads long16 = Towns.row(16);
        for (int place = 0; place < 15; place++) {
            Due.is("11: there, place " + place, long16.must(0, 15, place), place);
            Due.is("11: back, place " + place, long16.must(15, 0, place), 14 - place);
        }
        Due.is("11: no place more", long16.must(0, 15, 15), NONE);
        Due.is("11: must(0, 7, HIGH)", x.must(0, 7, HIGH), NONE);
        Due.is("11: must(0, 9, -1)", x.must(0, 9, -1), NO_SUCH);
        Due.is("11: must(-1, 0, 0)", x.must(-1, 0, 0), NO_SUCH);
        Due.is("11: must(HIGH, LOW, 0)", x.must(HIGH, LOW, 0), NO_SUCH);
        Due.is("11: must(0, 8, -1)", x.must(0, 8, -1), BAD_VALUE);
        Due.is("11: must(0, 7, LOW)", x.must(0, 7, LOW), BAD_VALUE);
    }

    private static void promise12CutOff() {
        PartingRoads x = Towns.twoRings();
        for (int square = 0; square < 3; square++) {
            Due.is("12: cutOff(" + square + ", 3)", x.cutOff(square, 3), 248);
            Due.is("12: cutOff(" + square + ", 8)", x.cutOff(square, 8), 128);
        }
        for (int square = 3; square < 8; square++) {
            Due.is("12: cutOff(" + square + ", 3)", x.cutOff(square, 3), 7);
        }
        Due.is("12: cutOff(7, 8)", x.cutOff(7, 8), 127);
        Due.is("12: a road that does not part", x.cutOff(0, 0), 0);
        Due.is("12: a square of another piece", x.cutOff(8, 3), 0);
        Due.is("12: a square of another piece, a road that does not part", x.cutOff(8, 0), 0);
        Due.is("12: cutOff(9, 0)", x.cutOff(9, 0), NO_SUCH);
        Due.is("12: cutOff(0, 9)", x.cutOff(0, 9), NO_SUCH);
        Due.is("12: cutOff(-1, 0)", x.cutOff(-1, 0), NO_SUCH);
        Due.is("12: cutOff(0, -1)", x.cutOff(0, -1), NO_SUCH);
        Due.is("12: cutOff(HIGH, LOW)", x.cutOff(HIGH, LOW), NO_SUCH);
    }

    private static void promise13IfBuilt() {
        PartingRoads x = Towns.twoRings();
        int[][] due = {{0, 7, 2, 2, 2}, {7, 0, 2, 2, 2}, {0, 1, 0, 4, 2}, {1, 4, 1, 3, 2}, {5, 7, 1, 3, 2}, {0, 8, 0, 4, 1}, {8, 7, 0, 4, 1}};
        for (int[] row : due) {
            for (int what = 0; what < 3; what++) {
                Due.is("13: ifBuilt(" + row[0] + ", " + row[1] + ", " + what + ")", x.ifBuilt(row[0], row[1], what), row[2 + what]);
            }
        }
        Due.is("13: nothing is built", x.count(1), 9);
        Due.is("13: nothing is recorded", x.count(9), 2);
        PartingRoads full = fullOfRoads();
        Due.is("13: with 30 roads, pieces", full.ifBuilt(0, 3, 2), 5);
        Due.is("13: with 30 roads, districts", full.ifBuilt(0, 3, 1), 6);
        Due.is("13: ifBuilt(0, 9, 3)", x.ifBuilt(0, 9, 3), NO_SUCH);
        Due.is("13: ifBuilt(9, 9, 0)", x.ifBuilt(9, 9, 0), NO_SUCH);
        Due.is("13: ifBuilt(-1, 0, 0)", x.ifBuilt(-1, 0, 0), NO_SUCH);
        Due.is("13: ifBuilt(HIGH, LOW, 0)", x.ifBuilt(HIGH, LOW, 0), NO_SUCH);
        for (int what = 0; what < 3; what++) {
            Due.is("13: ifBuilt(4, 4, " + what + ")", x.ifBuilt(4, 4, what), BAD_VALUE);
        }
        for (int wrong : new int[] {-1, 3, LOW, HIGH}) {
            Due.is("13: ifBuilt(0, 1, " + wrong + ")", x.ifBuilt(0, 1, wrong), BAD_VALUE);
        }
    }

    private static void bestIs(String where, PartingRoads x, int lower, int higher, int parting) {
        Due.is("14: " + where + ", bestBuilt(0)", x.bestBuilt(0), lower);
        Due.is("14: " + where + ", bestBuilt(1)", x.bestBuilt(1), higher);
        Due.is("14: " + where + ", bestBuilt(2)", x.bestBuilt(2), parting);
    }

    private static void promise14BestBuilt() {
        bestIs("no roads", new PartingRoads(), 0, 1, 1);
        bestIs("two rings", Towns.twoRings(), 0, 7, 0);
        bestIs("a row of 16", Towns.row(16), 0, 15, 0);
        PartingRoads ring = Towns.row(4);
        ring.build(0, 3, 1);
        bestIs("a ring", ring, 0, 1, 0);
        // Where nothing can be mended, a road within a piece still beats one that parts itself.
        PartingRoads late = new PartingRoads();
        Due.putAll(late, "5-7:1;5-7:1");
        late.read();
        bestIs("a ring at the end", late, 5, 7, 0);
        PartingRoads even = new PartingRoads();
        Due.putAll(even, "1-2:1;3-4:1");
        even.read();
        bestIs("two that are alike", even, 1, 2, 1);
        PartingRoads two = new PartingRoads();
        two.squares(2);
        bestIs("two squares", two, 0, 1, 1);
        bestIs("thirty roads", fullOfRoads(), 0, 1, 0);
        for (int wrong : new int[] {-1, 3, LOW, HIGH}) {
            Due.is("14: bestBuilt(" + wrong + ")", two.bestBuilt(wrong), BAD_VALUE);
        }
        Due.is("14: nothing is built", two.count(1), 0);
    }

    private static void promise15WorstLoss() {
        PartingRoads x = Towns.twoRings();
        Due.is("15: worstLoss(0)", x.worstLoss(0), 3);
        Due.is("15: worstLoss(1)", x.worstLoss(1), 15);
        PartingRoads even = Towns.row(5);
        Due.is("15: of several the lowest, road", even.worstLoss(0), 1);
        Due.is("15: of several the lowest, pairs", even.worstLoss(1), 6);
        PartingRoads ring = Towns.row(4);
        ring.build(0, 3, 1);
        Due.is("15: none parts, road", ring.worstLoss(0), 0);
        Due.is("15: none parts, pairs", ring.worstLoss(1), 0);
        PartingRoads halves = Towns.row(16);
        Due.is("15: the middle of 16, road", halves.worstLoss(0), 7);
        Due.is("15: the middle of 16, pairs", halves.worstLoss(1), 64);
        PartingRoads none = new PartingRoads();
        Due.is("15: no roads, worstLoss(0)", none.worstLoss(0), NONE);
        Due.is("15: no roads, worstLoss(1)", none.worstLoss(1), NONE);
        for (int wrong : new int[] {-1, 2, LOW, HIGH}) {
            Due.is("15: no roads, worstLoss(" + wrong + ")", none.worstLoss(wrong), BAD_VALUE);
            Due.is("15: worstLoss(" + wrong + ")", x.worstLoss(wrong), BAD_VALUE);
        }
    }

    private static void promise16Needed() {
        PartingRoads x = Towns.twoRings();
        for (int square = 0; square < 8; square++) {
            Due.is("16: needed(" + square + ")", x.needed(square), 1);
        }
        Due.is("16: a square alone", x.needed(8), 0);
        PartingRoads star = new PartingRoads();
        for (int square = 1; square < 8; square++) {
            star.build(0, square, 1);
            Due.is("16: a star of " + square, star.needed(0), (square == 1 ? 2 : square + 1) / 2);
        }
        Due.is("16: the other end of the star", star.needed(7), 4);
        PartingRoads ring = Towns.row(4);
        ring.build(0, 3, 1);
        Due.is("16: a ring", ring.needed(2), 0);
        PartingRoads two = new PartingRoads();
        Due.putAll(two, "0-1:1;0-2:1;0-3:1;4-5:1");
        two.read();
        Due.is("16: one piece", two.needed(0), 2);
        Due.is("16: the other piece", two.needed(5), 1);
        for (int wrong : new int[] {-1, 8, 16, LOW, HIGH}) {
            Due.is("16: needed(" + wrong + ")", two.needed(wrong), NO_SUCH);
        }
    }

    private static void promise17Put() {
        PartingRoads x = new PartingRoads();
        Due.is("17: put one", x.put('0'), 1);
        Due.is("17: put eight", x.put(Due.packed("-1:5;2-3")), 9);
        Due.is("17: put two", x.put(Due.packed(":7")), 11);
        Due.is("17: the order of the characters", x.fault(), NONE);
        Due.is("17: read()", x.read(), 2);
        Due.is("17: road(1, 2)", x.road(1, 2), 7);
        Due.is("17: put 33", x.put(33), 1);
        Due.is("17: put 126", x.put(126), 2);
        long[] wrong = {0, 32, 127, 128, 255, 1, '0' << 8, ('0' << 16) | '0', 0x3000000000000030L, 0x3030303030303000L, 0x8030303030303030L,
            0x2030303030303030L, 0x3030307f30303030L, -1, Long.MIN_VALUE, Long.MAX_VALUE, 0x0100000000000000L, 0x0000000100000030L};
        for (long characters : wrong) {
            Due.is("17: put(" + characters + ")", x.put(characters), BAD_VALUE);
        }
        Due.is("17: the pad after errors", x.count(8), 2);
        for (int part = 0; part < 9; part++) {
            x.put(0x7e7e7e7e7e7e7e7eL);
        }
        Due.is("17: 74 characters", x.count(8), 74);
        Due.is("17: put eight at 74", x.put(0x2121212121212121L), TOO_MANY);
        Due.is("17: put wrong ones at 74", x.put(0x2121212121212120L), BAD_VALUE);
        Due.is("17: put six at 74", x.put(0x212121212121L), 80);
        Due.is("17: put one at 80", x.put('0'), TOO_MANY);
        Due.is("17: put none at 80", x.put(0), BAD_VALUE);
        Due.is("17: no change is recorded", x.count(9), 1);
    }

    private static void promise18Wipe() {
        PartingRoads x = new PartingRoads();
        Due.is("18: wipe() of nothing", x.wipe(), 0);
        Due.putAll(x, "0-1:1;0-2:3");
        Due.is("18: wipe()", x.wipe(), 11);
        Due.is("18: length", x.count(8), 0);
        Due.is("18: fault()", x.fault(), 0);
        Due.is("18: wipe() again", x.wipe(), 0);
        Due.is("18: no change is recorded", x.count(9), 0);
        Due.is("18: put after wipe", x.put('5'), 1);
        Due.is("18: what was wiped is gone", x.fault(), 1);
    }

    private static void faultIs(String text, int due) {
        PartingRoads x = new PartingRoads();
        Due.putAll(x, text);
        Due.is("19: fault() of '" + text + "'", x.fault(), due);
        Due.is("19: fault() of '" + text + "' again", x.fault(), due);
        Due.is("19: the pad stays '" + text + "'", x.count(8), text.length());
    }

    private static void promise19Fault() {
        String[] good = {"0-1:1", "15-15:99", "9-10:10", "0-0:1", "1-1:9;2-3:45;15-0:1", "10-11:12;13-14:15"};
        for (String text : good) {
            faultIs(text, NONE);
            for (int length = 0; length < text.length(); length++) {
                String cut = text.substring(0, length);
                boolean whole = cut.matches("\\d+-\\d+:\\d+(;\\d+-\\d+:\\d+)*");
                faultIs(cut, whole ? NONE : length);
            }
        }
        Object[][] bad = {{"16-1:1", 1}, {"20-1:1", 1}, {"00-1:1", 1}, {"01-1:1", 1}, {"150-1:1", 2}, {"9-16:1", 3}, {"9-00:1", 3}, {"0-1:0", 4},
            {"0-1:100", 6}, {"0-1:05", 4}, {"-1:1", 0}, {";0-1:1", 0}, {":", 0}, {"0:1:1", 1}, {"0-1-1", 3}, {"0-1;1", 3}, {"0--1:1", 2},
            {"0-1::1", 4}, {"0-1:;", 4}, {"0-1:1;;", 6}, {"0-1:1-", 5}, {"0-1:1:", 5}, {"0-1:12;16", 8}, {"a", 0}, {"0-1:1a", 5}, {"0/1", 1}, {"0-1:1;x", 6},
            {"+1-2:3", 0}, {"0-1:99;0-1:999", 13}};
        for (Object[] row : bad) {
            faultIs((String) row[0], (Integer) row[1]);
        }
        faultIs("0-1:10;".repeat(11), 77);
        faultIs("0-1:10;".repeat(11) + "0-1", 80);
        faultIs("0-1:1;".repeat(12) + "15-14:99", NONE);
    }

    private static void promise20Undo() {
        PartingRoads x = new PartingRoads();
        Due.is("20: nothing to undo", x.undo(), NOT_POSSIBLE);
        for (int road = 1; road <= 8; road++) {
            x.build(0, road % 7 + 1, road);
            Due.is("20: changes after " + road, x.count(9), Math.min(road, 6));
        }
        for (int left = 5; left >= 0; left--) {
            Due.is("20: undo() with " + left + " left", x.undo(), left);
            Due.is("20: roads with " + left + " left", x.count(1), left + 2);
            Due.is("20: lengths with " + left + " left", x.count(7), (left + 2) * (left + 3) / 2);
        }
        Due.is("20: the oldest ones are dropped", x.undo(), NOT_POSSIBLE);
        Due.is("20: roads then", x.count(1), 2);
        x.build(4, 5, 60);
        Due.is("20: undo() is no change itself", x.undo(), 0);
        Due.is("20: the districts are as before", x.count(5), 8);
        Due.is("20: the pieces are as before", x.count(2), 6);
    }

    private static void promise20UndoEachChange() {
        PartingRoads x = new PartingRoads();
        x.build(0, 1, 3);
        x.save(0);
        x.squares(8);
        Due.is("20: a change without a difference", x.count(9), 2);
        x.squares(9);
        x.lose(0);
        Due.putAll(x, "4-5:6");
        x.read();
        x.restore(0);
        Due.is("20: all changes", x.count(9), 6);
        x.save(1);
        Due.putAll(x, "7");
        Due.is("20: undo restore", x.undo(), 5);
        Due.is("20: the road that was read", x.road(0, 2), 6);
        Due.is("20: undo read", x.undo(), 4);
        Due.is("20: no road", x.count(1), 0);
        Due.is("20: the pad stays", x.count(8), 1);
        Due.is("20: undo lose", x.undo(), 3);
        Due.is("20: the lost road", x.road(0, 2), 3);
        Due.is("20: nine squares", x.count(0), 9);
        Due.is("20: undo squares(9)", x.undo(), 2);
        Due.is("20: eight squares", x.count(0), 8);
        Due.is("20: undo squares(8)", x.undo(), 1);
        Due.is("20: undo build", x.undo(), 0);
        Due.is("20: no road at first", x.count(1), 0);
        Due.is("20: the slots stay", x.restore(1), 1);
    }

    private static void promise21Save() {
        PartingRoads x = new PartingRoads();
        Due.is("21: save(0)", x.save(0), 0);
        x.squares(10);
        x.build(8, 9, 7);
        Due.putAll(x, "0-1:1");
        Due.is("21: save(1)", x.save(1), 1);
        Due.is("21: no change is recorded", x.count(9), 2);
        x.build(0, 1, 1);
        Due.is("21: restore(1)", x.restore(1), 1);
        Due.is("21: road(0, 2)", x.road(0, 2), 7);
        Due.is("21: squares", x.count(0), 10);
        Due.is("21: restore(0)", x.restore(0), 0);
        Due.is("21: squares at first", x.count(0), 8);
        x.build(2, 3, 4);
        x.build(2, 4, 4);
        Due.is("21: save(0) over the old one", x.save(0), 2);
        x.lose(0);
        Due.is("21: restore(0) again", x.restore(0), 2);
        Due.is("21: the other slot is its own", x.restore(1), 1);
        Due.is("21: the pad is not saved", x.count(8), 5);
        for (int wrong : new int[] {-1, 2, LOW, HIGH}) {
            Due.is("21: save(" + wrong + ")", x.save(wrong), BAD_VALUE);
        }
    }

    private static void promise22Restore() {
        PartingRoads x = new PartingRoads();
        for (int wrong : new int[] {-1, 2, LOW, HIGH}) {
            Due.is("22: restore(" + wrong + ")", x.restore(wrong), BAD_VALUE);
        }
        Due.is("22: restore(0) of nothing", x.restore(0), NOT_POSSIBLE);
        Due.is("22: restore(1) of nothing", x.restore(1), NOT_POSSIBLE);
        Due.is("22: changes after errors", x.count(9), 0);
        x.build(0, 1, 9);
        x.build(1, 0, 8);
        x.save(1);
        Due.is("22: restore(0) still", x.restore(0), NOT_POSSIBLE);
        x.lose(1);
        Due.is("22: it parts", x.road(0, 3), 1);
        Due.putAll(x, "77");
        Due.is("22: restore(1)", x.restore(1), 2);
        Due.is("22: it does not part", x.road(0, 3), 0);
        Due.is("22: the pad stays", x.count(8), 2);
        Due.is("22: it is a change", x.count(9), 4);
        x.lose(0);
        Due.is("22: the slot keeps it", x.restore(1), 2);
        Due.is("22: road(0, 2)", x.road(0, 2), 9);
        Due.is("22: undo()", x.undo(), 5);
        Due.is("22: roads after undo", x.count(1), 1);
        Due.is("22: road(0, 2) after undo", x.road(0, 2), 8);
    }

    private static void errorsChangeNothing() {
        PartingRoads x = Towns.twoRings();
        x.save(0);
        Due.putAll(x, "0-0:5");
        long before = look(x);
        int[] errors = {x.squares(17), x.squares(7), x.build(0, 9, 1), x.build(0, 0, 1), x.build(0, 1, 0), x.lose(9), x.read(), x.road(9, 0),
            x.square(9, 0), x.district(4, 0), x.count(10), x.way(0, 9, 0), x.must(0, 1, -1), x.cutOff(0, 9), x.ifBuilt(0, 0, 0), x.bestBuilt(3),
            x.worstLoss(2), x.needed(9), x.put(0), x.save(2), x.restore(1), x.restore(2)};
        for (int call = 0; call < errors.length; call++) {
            Due.is("errors: call " + call + " is one", errors[call] < 0 && errors[call] > NONE ? 1 : 0, 1);
        }
        Due.is("errors: nothing is different", look(x), before);
        Due.is("errors: the slot is as it was", x.restore(0), 9);
        Due.is("errors: the history is as it was", x.undo(), 2);
    }

    private static long look(PartingRoads x) {
        long seen = x.fault();
        for (int what = 0; what < 10; what++) {
            seen = seen * 31 + x.count(what);
        }
        for (int road = 0; road < 9; road++) {
            for (int what = 0; what < 6; what++) {
                seen = seen * 31 + x.road(road, what);
            }
        }
        for (int square = 0; square < 9; square++) {
            for (int what = 0; what < 5; what++) {
                seen = seen * 31 + x.square(square, what);
            }
        }
        return seen;
    }
}
