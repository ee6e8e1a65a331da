/** The boundaries of promises 10 to 16: ways between squares, and what a road more or fewer would do. */
final class WayBoundaries {
    private WayBoundaries() {}

    static void all() {
        leastLength();
        roadsOnWay();
        districtsOnWay();
        wayNoSquare();
        wayNoWhat();
        wayApart();
        mustPlace();
        mustNoSquare();
        mustNoPlace();
        mustNone();
        cutOffSets();
        cutOffNoSuch();
        ifBuiltAnyway();
        ifBuiltNumbers();
        ifBuiltNoSquare();
        ifBuiltBadValue();
        bestOfSeveral();
        bestWithNewRoad();
        bestNoWhat();
        worstOfSeveral();
        worstNoWhat();
        worstNone();
        neededLeaves();
        neededNoSquare();
    }

    private static PartingRoads longRow() {
        PartingRoads x = Towns.empty(16);
        for (int square = 15; square > 0; square--) {
            x.build(square, square - 1, 99);
        }
        return x;
    }

    private static void leastLength() {
        Sentences.says(10, "0 the least sum of lengths of a way by roads (0 if they are the same)");
        for (int square = 0; square < 16; square++) {
            Due.is("without roads, from " + square + " to itself", Towns.empty(16).way(square, square, 0), 0);
            Due.is("in a row, from " + square + " to itself", longRow().way(square, square, 0), 0);
            Due.is("in a ring, from " + square + " to itself", Towns.ring(16).way(square, square, 0), 0);
        }
        PartingRoads x = longRow();
        Due.is("the longest", x.way(0, 15, 0), 1485);
        Due.is("the longest back", x.way(15, 0, 0), 1485);
        Due.is("one road", x.way(15, 14, 0), 99);
        x.build(0, 14, 99);
        Due.is("with a road across", x.way(0, 15, 0), 198);
        x.build(15, 0, 1);
        Due.is("the shortest", x.way(0, 15, 0), 1);
        PartingRoads around = Towns.read(16, "0-15:99;0-1:1;1-2:1;2-3:1;3-15:95");
        Due.is("more roads, but shorter", around.way(0, 15, 0), 98);
        around.build(0, 1, 99);
        around.build(3, 15, 99);
        Due.is("longer roads beside them don't matter", around.way(0, 15, 0), 98);
        around.build(15, 0, 98);
        Due.is("as short", around.way(15, 0, 0), 98);
        around.build(15, 0, 97);
        Due.is("the third road is shorter", around.way(15, 0, 0), 97);
    }

    private static void roadsOnWay() {
        Sentences.says(10, "1 how many roads each way must take");
        PartingRoads x = longRow();
        Due.is("the most", x.way(0, 15, 1), 15);
        Due.is("the most back", x.way(15, 0, 1), 15);
        Due.is("from a square to itself", x.way(7, 7, 1), 0);
        Due.is("without roads, from a square to itself", Towns.empty(2).way(1, 1, 1), 0);
        Due.is("one", Towns.row(2).way(1, 0, 1), 1);
        Due.is("in a ring", Towns.ring(16).way(0, 15, 1), 0);
        Due.is("one of two", Towns.manyRoads(2, 1).way(0, 1, 1), 0);
    }

    private static void districtsOnWay() {
        Sentences.says(10, "2 how many districts the way between their districts has");
        PartingRoads x = longRow();
        Due.is("the most", x.way(0, 15, 2), 16);
        Due.is("the most back", x.way(15, 0, 2), 16);
        Due.is("from a square to itself", x.way(7, 7, 2), 1);
        Due.is("without roads, from a square to itself", Towns.empty(2).way(1, 1, 2), 1);
        Due.is("two", Towns.row(2).way(1, 0, 2), 2);
        Due.is("in a ring", Towns.ring(16).way(0, 15, 2), 1);
    }

    private static void wayNoSquare() {
        Sentences.says(10, "NO_SUCH if there is no such square");
        for (int many : new int[] {2, 8, 16}) {
            PartingRoads x = Towns.row(many);
            for (int wrong : Towns.outside(0, many - 1)) {
                for (int what = 0; what < 3; what++) {
                    Due.is(many + " squares, way(" + wrong + ", 0, " + what + ")", x.way(wrong, 0, what), PartingRoads.NO_SUCH);
                    Due.is(many + " squares, way(0, " + wrong + ", " + what + ")", x.way(0, wrong, what), PartingRoads.NO_SUCH);
                }
                Due.is(many + " squares, from and to " + wrong, x.way(wrong, wrong, 0), PartingRoads.NO_SUCH);
            }
            Due.is(many + " squares, from the first to the last", x.way(0, many - 1, 1), many - 1);
        }
    }

    private static void wayNoWhat() {
        Sentences.says(10, "BAD_VALUE if what is out of range");
        PartingRoads x = Towns.read(4, "0-1:1;1-2:1");
        for (int wrong : Towns.outside(0, 2)) {
            Due.is("way(0, 2, " + wrong + ")", x.way(0, 2, wrong), PartingRoads.BAD_VALUE);
            Due.is("way(0, 0, " + wrong + ")", x.way(0, 0, wrong), PartingRoads.BAD_VALUE);
            Due.is("way(0, 3, " + wrong + ")", x.way(0, 3, wrong), PartingRoads.BAD_VALUE);
            Due.is("no square: way(0, 4, " + wrong + ")", x.way(0, 4, wrong), PartingRoads.NO_SUCH);
        }
    }

    private static void wayApart() {
        Sentences.says(10, "NONE if they do not hang together");
        PartingRoads x = Towns.row(16);
        x.lose(7);
        for (int what = 0; what < 3; what++) {
            Due.is("over the gap, " + what, x.way(7, 8, what), PartingRoads.NONE);
            Due.is("over the gap back, " + what, x.way(15, 0, what), PartingRoads.NONE);
        }
        Due.is("up to the gap", x.way(0, 7, 1), 7);
        Due.is("from the gap on", x.way(8, 15, 1), 7);
        x.undo();
        Due.is("no gap any more", x.way(7, 8, 0), 8);
        PartingRoads two = Towns.empty(2);
        Due.is("two squares", two.way(0, 1, 0), PartingRoads.NONE);
        two.build(0, 1, 3);
        Due.is("two squares and a road", two.way(0, 1, 0), 3);
    }

    private static void mustPlace() {
        Sentences.says(11, "0 for the first one as one comes from the one to the other");
        PartingRoads x = longRow();
        for (int place = 0; place < 15; place++) {
            Due.is("there, place " + place, x.must(0, 15, place), 14 - place);
            Due.is("back, place " + place, x.must(15, 0, place), place);
        }
        Due.is("the only one", Towns.row(2).must(0, 1, 0), 0);
        Due.is("the only one back", Towns.row(2).must(1, 0, 0), 0);
        PartingRoads mixed = Towns.read(8, "3-4:1;6-7:1;0-1:1;4-5:1;1-2:1;5-6:1;2-3:1");
        int[] due = {2, 4, 6, 0, 3, 5, 1};
        for (int place = 0; place < 7; place++) {
            Due.is("in another order than they were built, place " + place, mixed.must(0, 7, place), due[place]);
            Due.is("in another order back, place " + place, mixed.must(7, 0, place), due[6 - place]);
        }
    }

    private static void mustNoSquare() {
        Sentences.says(11, "NO_SUCH if there is no such square");
        for (int many : new int[] {2, 8, 16}) {
            PartingRoads x = Towns.row(many);
            for (int wrong : Towns.outside(0, many - 1)) {
                Due.is(many + " squares, must(" + wrong + ", 0, 0)", x.must(wrong, 0, 0), PartingRoads.NO_SUCH);
                Due.is(many + " squares, must(0, " + wrong + ", 0)", x.must(0, wrong, 0), PartingRoads.NO_SUCH);
                Due.is(many + " squares, must(" + wrong + ", " + wrong + ", -1)", x.must(wrong, wrong, -1), PartingRoads.NO_SUCH);
            }
            Due.is(many + " squares, from the last to the first", x.must(many - 1, 0, 0), many - 2);
        }
    }

    private static void mustNoPlace() {
        Sentences.says(11, "BAD_VALUE if place is below 0");
        PartingRoads x = Towns.read(4, "0-1:1;1-2:1");
        for (int wrong : new int[] {-1, -2, -31, -32, -256, -65536, Towns.LOW, Towns.LOW + 1}) {
            Due.is("must(0, 2, " + wrong + ")", x.must(0, 2, wrong), PartingRoads.BAD_VALUE);
            Due.is("must(0, 0, " + wrong + ")", x.must(0, 0, wrong), PartingRoads.BAD_VALUE);
            Due.is("must(0, 3, " + wrong + ")", x.must(0, 3, wrong), PartingRoads.BAD_VALUE);
        }
        Due.is("must(0, 2, 0)", x.must(0, 2, 0), 0);
    }

    private static void mustNone() {
        Sentences.says(11, "NONE if there are not so many, or they do not hang together");
        PartingRoads x = longRow();
        for (int place : new int[] {15, 16, 29, 30, 31, 32, 256, 65536, Towns.HIGH - 1, Towns.HIGH}) {
            Due.is("of 15 roads, place " + place, x.must(0, 15, place), PartingRoads.NONE);
            Due.is("of one road, place " + place, x.must(0, 1, place), PartingRoads.NONE);
        }
        Due.is("of one road, place 1", x.must(0, 1, 1), PartingRoads.NONE);
        Due.is("from a square to itself", x.must(3, 3, 0), PartingRoads.NONE);
        Due.is("within a ring", Towns.ring(16).must(0, 15, 0), PartingRoads.NONE);
        x.lose(7);
        for (int place : new int[] {0, 1, 14, Towns.HIGH}) {
            Due.is("over a gap, place " + place, x.must(0, 15, place), PartingRoads.NONE);
        }
        Due.is("no roads", Towns.empty(2).must(0, 1, 0), PartingRoads.NONE);
    }

    private static void cutOffSets() {
        Sentences.says(12, "those that hang together with it now, and would not then, as a set");
        PartingRoads x = Towns.row(16);
        for (int road = 0; road < 15; road++) {
            int low = (2 << road) - 1;
            for (int square = 0; square < 16; square++) {
                Due.is("cutOff(" + square + ", " + road + ")", x.cutOff(square, road), square <= road ? 65535 - low : low);
            }
        }
        PartingRoads apart = Towns.read(16, "0-1:1;2-3:1;3-4:1;5-6:1;5-6:1");
        Due.is("a road of another piece", apart.cutOff(0, 1), 0);
        Due.is("a square without roads", apart.cutOff(15, 0), 0);
        Due.is("a road of two", apart.cutOff(5, 3), 0);
        Due.is("its own piece alone", apart.cutOff(4, 1), 4);
        PartingRoads two = Towns.row(2);
        Due.is("two squares", two.cutOff(0, 0), 2);
        Due.is("two squares, from the other one", two.cutOff(1, 0), 1);
        Due.is("a ring", Towns.ring(16).cutOff(0, 15), 0);
    }

    private static void cutOffNoSuch() {
        Sentences.says(12, "NO_SUCH if there is no such square or road");
        PartingRoads none = new PartingRoads();
        for (int wrong : Towns.outside(0, -1)) {
            Due.is("no roads, cutOff(0, " + wrong + ")", none.cutOff(0, wrong), PartingRoads.NO_SUCH);
        }
        for (int roads : new int[] {1, 30}) {
            PartingRoads x = Towns.manyRoads(roads, 1);
            for (int wrong : Towns.outside(0, roads - 1)) {
                Due.is(roads + " roads, cutOff(0, " + wrong + ")", x.cutOff(0, wrong), PartingRoads.NO_SUCH);
            }
            for (int wrong : Towns.outside(0, 7)) {
                Due.is("8 squares, cutOff(" + wrong + ", 0)", x.cutOff(wrong, 0), PartingRoads.NO_SUCH);
                Due.is("8 squares, cutOff(" + wrong + ", -1)", x.cutOff(wrong, -1), PartingRoads.NO_SUCH);
            }
            Due.is(roads + " roads, the last one", x.cutOff(7, roads - 1), 0);
        }
        PartingRoads most = Towns.row(16);
        for (int wrong : Towns.outside(0, 15)) {
            Due.is("16 squares, cutOff(" + wrong + ", 0)", most.cutOff(wrong, 0), PartingRoads.NO_SUCH);
        }
    }

    private static void ifBuiltAnyway() {
        Sentences.says(13, "its length does not matter; however many roads there are");
        PartingRoads x = Towns.manyRoads(29, 1);
        x.build(1, 2, 1);
        Due.is("30 roads, one parts", x.count(3), 1);
        Due.is("30 roads, mended", x.ifBuilt(0, 2, 0), 1);
        Due.is("30 roads, districts", x.ifBuilt(0, 2, 1), 6);
        Due.is("30 roads, pieces as now", x.ifBuilt(0, 2, 2), 6);
        Due.is("30 roads, nothing to mend", x.ifBuilt(7, 6, 0), 0);
        Due.is("30 roads, districts as now", x.ifBuilt(7, 6, 1), 7);
        Due.is("30 roads, pieces", x.ifBuilt(7, 6, 2), 5);
        Due.is("30 roads still", x.count(1), 30);
    }

    private static void ifBuiltNumbers() {
        Sentences.says(13, "0 how many roads that part now would not part then, 1 how many districts there would be, 2 how many pieces there would be");
        int[][] due = {{0, 15, 15, 1, 1}, {15, 0, 15, 1, 1}, {0, 1, 1, 15, 1}, {14, 15, 1, 15, 1}, {7, 9, 2, 14, 1}};
        PartingRoads row = Towns.row(16);
        for (int[] ask : due) {
            for (int what = 0; what < 3; what++) {
                Due.is("in a row, ifBuilt(" + ask[0] + ", " + ask[1] + ", " + what + ")", row.ifBuilt(ask[0], ask[1], what), ask[2 + what]);
            }
        }
        int[] whole = {0, 1, 1};
        int[] apart = {0, 16, 15};
        int[] two = {0, 2, 1};
        int[] joined = {0, 16, 1};
        PartingRoads gap = Towns.row(16);
        gap.lose(7);
        for (int what = 0; what < 3; what++) {
            Due.is("in a ring, " + what, Towns.ring(16).ifBuilt(0, 8, what), whole[what]);
            Due.is("without roads, " + what, Towns.empty(16).ifBuilt(14, 15, what), apart[what]);
            Due.is("two squares without roads, " + what, Towns.empty(2).ifBuilt(1, 0, what), two[what]);
            Due.is("over a gap, " + what, gap.ifBuilt(0, 15, what), joined[what]);
        }
    }

    private static void ifBuiltNoSquare() {
        Sentences.says(13, "NO_SUCH if there is no such square");
        for (int many : new int[] {2, 8, 16}) {
            PartingRoads x = Towns.row(many);
            for (int wrong : Towns.outside(0, many - 1)) {
                Due.is(many + " squares, ifBuilt(" + wrong + ", 0, 0)", x.ifBuilt(wrong, 0, 0), PartingRoads.NO_SUCH);
                Due.is(many + " squares, ifBuilt(0, " + wrong + ", 2)", x.ifBuilt(0, wrong, 2), PartingRoads.NO_SUCH);
                Due.is(many + " squares, ifBuilt(" + wrong + ", " + wrong + ", 1)", x.ifBuilt(wrong, wrong, 1), PartingRoads.NO_SUCH);
            }
            Due.is(many + " squares, between the first and the last", x.ifBuilt(0, many - 1, 0), many - 1);
        }
    }

    private static void ifBuiltBadValue() {
        Sentences.says(13, "BAD_VALUE if both are the same, or what is out of range");
        PartingRoads x = Towns.row(16);
        for (int square = 0; square < 16; square++) {
            for (int what = -1; what < 4; what++) {
                Due.is("ifBuilt(" + square + ", " + square + ", " + what + ")", x.ifBuilt(square, square, what), PartingRoads.BAD_VALUE);
            }
        }
        x.lose(7);
        for (int wrong : Towns.outside(0, 2)) {
            Due.is("ifBuilt(0, 1, " + wrong + ")", x.ifBuilt(0, 1, wrong), PartingRoads.BAD_VALUE);
            Due.is("ifBuilt(0, 15, " + wrong + ")", x.ifBuilt(0, 15, wrong), PartingRoads.BAD_VALUE);
        }
    }

    private static void best(String where, PartingRoads x, int lower, int higher, int parting) {
        Due.is(where + ", bestBuilt(0)", x.bestBuilt(0), lower);
        Due.is(where + ", bestBuilt(1)", x.bestBuilt(1), higher);
        Due.is(where + ", bestBuilt(2)", x.bestBuilt(2), parting);
    }

    private static void bestOfSeveral() {
        Sentences.says(14, "of several the ones with the lowest lower square, of these with the lowest higher one");
        best("a ring", Towns.ring(16), 0, 1, 0);
        best("two squares and a road", Towns.row(2), 0, 1, 0);
        best("a row", Towns.row(16), 0, 15, 0);
        best("a star", Towns.star(16, 15), 1, 2, 13);
        best("a fork", Towns.read(8, "0-1:1;1-2:1;1-3:1;1-4:1"), 0, 2, 2);
        best("a fork at the end", Towns.read(16, "15-14:1;15-13:1;15-12:1"), 12, 13, 1);
        best("two pieces that are alike", Towns.read(16, "14-15:1;12-13:1"), 12, 13, 1);
        best("the second piece is longer", Towns.read(8, "0-1:1;2-3:1;3-4:1"), 2, 4, 1);
        best("the last two of 16", Towns.read(16, "14-15:1"), 14, 15, 0);
        PartingRoads full = Towns.manyRoads(30, 1);
        best("30 roads, none parts", full, 0, 1, 0);
        full.lose(0);
        full.build(1, 7, 1);
        best("30 roads, one parts", full, 0, 7, 0);
    }

    private static void bestWithNewRoad() {
        Sentences.says(14, "2 how many roads would part then (the new one, too, if it does)");
        best("two squares, no roads", Towns.empty(2), 0, 1, 1);
        best("16 squares, no roads", Towns.empty(16), 0, 1, 1);
        best("a ring at the end, where the new one needn't part", Towns.read(16, "14-15:1;15-14:1"), 14, 15, 0);
        best("one road at the end", Towns.read(3, "1-2:1"), 1, 2, 0);
        PartingRoads x = Towns.row(3);
        best("a row of three", x, 0, 2, 0);
        x.build(0, 2, 1);
        best("a ring of three", x, 0, 1, 0);
    }

    private static void bestNoWhat() {
        Sentences.says(14, "BAD_VALUE if what is out of range");
        for (PartingRoads x : new PartingRoads[] {Towns.empty(2), Towns.row(16), Towns.manyRoads(30, 1)}) {
            for (int wrong : Towns.outside(0, 2)) {
                Due.is("bestBuilt(" + wrong + ")", x.bestBuilt(wrong), PartingRoads.BAD_VALUE);
            }
        }
    }

    private static void worst(String where, PartingRoads x, int road, int pairs) {
        Due.is(where + ", worstLoss(0)", x.worstLoss(0), road);
        Due.is(where + ", worstLoss(1)", x.worstLoss(1), pairs);
    }

    private static void worstOfSeveral() {
        Sentences.says(15, "of several the lowest one");
        worst("a star", Towns.star(16, 15), 0, 15);
        worst("a ring", Towns.ring(16), 0, 0);
        worst("30 roads, none parts", Towns.manyRoads(30, 1), 0, 0);
        worst("one road", Towns.row(2), 0, 1);
        worst("a row", Towns.row(16), 7, 64);
        worst("two in the middle of a row", Towns.row(5), 1, 6);
        worst("not the first", Towns.read(8, "0-1:1;2-3:1;3-4:1"), 1, 2);
        PartingRoads last = Towns.manyRoads(29, 1);
        last.build(0, 7, 1);
        worst("the thirtieth", last, 29, 2);
    }

    private static void worstNoWhat() {
        Sentences.says(15, "BAD_VALUE if what is neither 0 nor 1");
        for (PartingRoads x : new PartingRoads[] {Towns.empty(2), Towns.row(16), Towns.manyRoads(30, 1)}) {
            for (int wrong : Towns.outside(0, 1)) {
                Due.is("worstLoss(" + wrong + ")", x.worstLoss(wrong), PartingRoads.BAD_VALUE);
            }
        }
    }

    private static void worstNone() {
        Sentences.says(15, "NONE if there are no roads");
        PartingRoads x = Towns.empty(2);
        worst("no roads yet", x, PartingRoads.NONE, PartingRoads.NONE);
        x.build(0, 1, 1);
        worst("one road", x, 0, 1);
        x.lose(0);
        worst("no roads any more", x, PartingRoads.NONE, PartingRoads.NONE);
        x.undo();
        worst("one road again", x, 0, 1);
        x.undo();
        worst("no roads again", x, PartingRoads.NONE, PartingRoads.NONE);
    }

    private static void neededLeaves() {
        Sentences.says(16, "half of its districts with just one road that parts, rounded up (0 if it has one district)");
        Due.is("a square alone", Towns.empty(2).needed(1), 0);
        Due.is("a ring", Towns.ring(16).needed(15), 0);
        Due.is("30 roads in one district", Towns.manyRoads(30, 1).needed(0), 0);
        Due.is("two districts", Towns.row(2).needed(0), 1);
        Due.is("16 districts in a row", Towns.row(16).needed(7), 1);
        for (int rays = 2; rays <= 15; rays++) {
            PartingRoads star = Towns.star(16, rays);
            Due.is("a star of " + rays, star.needed(0), rays / 2 + rays % 2);
            Due.is("a star of " + rays + ", its last ray", star.needed(rays), rays / 2 + rays % 2);
            if (rays < 15) {
                Due.is("beside a star of " + rays, star.needed(15), 0);
            }
        }
        Due.is("a star with the lowest and the highest of its squares outside", Towns.read(5, "2-0:1;2-3:1;2-4:1").needed(2), 2);
        Due.is("a star with its middle behind all others", Towns.read(16, "15-0:1;15-1:1;15-2:1").needed(15), 2);
        PartingRoads apart = Towns.read(16, "0-1:1;2-3:1;2-4:1;2-5:1;6-7:1;7-6:1");
        Due.is("its own piece of two districts", apart.needed(1), 1);
        Due.is("its own piece of four districts", apart.needed(5), 2);
        Due.is("its own piece of one district", apart.needed(7), 0);
    }

    private static void neededNoSquare() {
        Sentences.says(16, "NO_SUCH if there is no such square");
        for (int many : new int[] {2, 8, 16}) {
            PartingRoads x = Towns.row(many);
            for (int wrong : Towns.outside(0, many - 1)) {
                Due.is(many + " squares, needed(" + wrong + ")", x.needed(wrong), PartingRoads.NO_SUCH);
            }
            Due.is(many + " squares, the last one", x.needed(many - 1), 1);
        }
    }
}
