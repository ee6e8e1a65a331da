/** The boundaries of promises 6 to 9: roads, squares, districts, and numbers of all of them. */
final class PlaceBoundaries {
    private PlaceBoundaries() {}

    static void all() {
        squaresOfRoad();
        ringOfRoad();
        pairsOfRoad();
        noRoad();
        noWhatOfRoad();
        roadsOfSquare();
        setOfSquare();
        morePiecesWithoutSquare();
        noSquare();
        noWhatOfSquare();
        squaresOfDistrict();
        lengthsOfDistrict();
        roadsOutOfDistrict();
        ringsOfDistrict();
        noDistrict();
        noWhatOfDistrict();
        longestDistrict();
        leastAndMostNumbers();
        noWhatOfCount();
    }

    private static void squaresOfRoad() {
        Sentences.says(6, "0 its lower square, 1 its higher one");
        PartingRoads x = Towns.empty(16);
        for (int lower = 0; lower < 15; lower++) {
            for (int higher = lower + 1; higher < 16; higher += lower % 2 == 0 ? 1 : 3) {
                Due.is("build", (lower + higher) % 2 == 0 ? x.build(lower, higher, 1) : x.build(higher, lower, 1), 15);
                Due.is("the lower one of " + lower + " and " + higher, x.road(0, 0), lower);
                Due.is("the higher one of " + lower + " and " + higher, x.road(0, 1), higher);
                Due.is("lose", x.lose(0), 16);
            }
        }
    }

    private static void ringOfRoad() {
        Sentences.says(6, "4 the least number of squares of a ring that has it (NONE)");
        PartingRoads row = Towns.row(16);
        for (int road = 0; road < 15; road++) {
            Due.is("a row, road " + road, row.road(road, 4), PartingRoads.NONE);
        }
        PartingRoads ring = Towns.ring(16);
        for (int road = 0; road < 16; road++) {
            Due.is("the greatest ring, road " + road, ring.road(road, 4), 16);
        }
        ring.build(0, 8, 1);
        Due.is("halved, the first half", ring.road(0, 4), 9);
        Due.is("halved, the other half", ring.road(15, 4), 9);
        Due.is("halved, the road across", ring.road(16, 4), 9);
        ring.build(8, 0, 1);
        Due.is("the road across, twice", ring.road(16, 4), 2);
        Due.is("halved twice", ring.road(0, 4), 9);
        ring.lose(0);
        Due.is("the half that is open now", ring.road(0, 4), PartingRoads.NONE);
    }

    private static void pairsOfRoad() {
        Sentences.says(6, "5 how many pairs of squares would not hang together any more by its loss");
        PartingRoads row = Towns.row(16);
        for (int road = 0; road < 15; road++) {
            Due.is("a row, road " + road, row.road(road, 5), (road + 1) * (15 - road));
        }
        PartingRoads ring = Towns.ring(16);
        Due.is("a ring", ring.road(0, 5), 0);
        PartingRoads two = Towns.row(2);
        Due.is("two squares", two.road(0, 5), 1);
        two.build(0, 1, 1);
        Due.is("two squares, two roads", two.road(0, 5), 0);
        PartingRoads apart = Towns.read(16, "0-1:1;2-3:1;3-4:1;4-5:1");
        Due.is("only its own piece counts", apart.road(0, 5), 1);
        Due.is("only its own piece counts, the other one", apart.road(2, 5), 4);
    }

    private static void noRoad() {
        Sentences.says(6, "NO_SUCH if there is no such road");
        PartingRoads none = new PartingRoads();
        for (int wrong : Towns.outside(0, -1)) {
            Due.is("no roads, road(" + wrong + ", 0)", none.road(wrong, 0), PartingRoads.NO_SUCH);
        }
        for (int roads : new int[] {1, 30}) {
            PartingRoads x = Towns.manyRoads(roads, 7);
            for (int what = 0; what < 6; what++) {
                for (int wrong : Towns.outside(0, roads - 1)) {
                    Due.is(roads + " roads, road(" + wrong + ", " + what + ")", x.road(wrong, what), PartingRoads.NO_SUCH);
                }
            }
            Due.is(roads + " roads, the last one", x.road(roads - 1, 2), 7);
            x.lose(0);
            Due.is(roads + " roads less one", x.road(roads - 1, 2), PartingRoads.NO_SUCH);
            x.undo();
            Due.is(roads + " roads again", x.road(roads - 1, 2), 7);
        }
    }

    private static void noWhatOfRoad() {
        Sentences.says(6, "BAD_VALUE if what is out of range");
        PartingRoads x = Towns.row(3);
        for (int wrong : Towns.outside(0, 5)) {
            Due.is("road(0, " + wrong + ")", x.road(0, wrong), PartingRoads.BAD_VALUE);
            Due.is("road(1, " + wrong + ")", x.road(1, wrong), PartingRoads.BAD_VALUE);
            Due.is("no road: road(2, " + wrong + ")", x.road(2, wrong), PartingRoads.NO_SUCH);
        }
    }

    private static void roadsOfSquare() {
        Sentences.says(7, "0 how many roads it has");
        PartingRoads x = Towns.manyRoads(30, 1);
        Due.is("the most", x.square(0, 0), 30);
        Due.is("the most, at the other end", x.square(1, 0), 30);
        Due.is("none", x.square(2, 0), 0);
        Due.is("the middle of a star", Towns.star(16, 15).square(0, 0), 15);
        Due.is("a ray of a star", Towns.star(16, 15).square(15, 0), 1);
    }

    private static void setOfSquare() {
        Sentences.says(7, "3 the squares that hang together with it (and it), as a set");
        PartingRoads x = Towns.star(16, 14);
        Due.is("alone", x.square(15, 3), 32768);
        Due.is("all others", x.square(14, 3), 32767);
        x.build(15, 14, 1);
        Due.is("all", x.square(15, 3), 65535);
        PartingRoads two = Towns.empty(2);
        Due.is("the first of two, alone", two.square(0, 3), 1);
        Due.is("the last of two, alone", two.square(1, 3), 2);
        two.build(0, 1, 1);
        Due.is("both of two", two.square(1, 3), 3);
    }

    private static void morePiecesWithoutSquare() {
        Sentences.says(7, "4 how many more pieces there would be among the others without it (0 if it has no roads)");
        PartingRoads none = Towns.empty(2);
        Due.is("no roads, two squares", none.square(0, 4), 0);
        Due.is("no roads, two squares, does it part", none.square(0, 1), 0);
        PartingRoads beside = Towns.star(16, 14);
        Due.is("no roads beside a star", beside.square(15, 4), 0);
        Due.is("no roads beside a star, does it part", beside.square(15, 1), 0);
        Due.is("a ray", beside.square(14, 4), 0);
        Due.is("the middle of 14 rays", beside.square(0, 4), 13);
        Due.is("the most", Towns.star(16, 15).square(0, 4), 14);
        Due.is("one road of two squares", Towns.row(2).square(0, 4), 0);
        Due.is("the middle of three", Towns.row(3).square(1, 4), 1);
        Due.is("of 30 roads to one square", Towns.manyRoads(30, 1).square(0, 4), 0);
        for (int rays = 1; rays <= 15; rays++) {
            PartingRoads star = Towns.star(16, rays);
            Due.is("the middle of " + rays, star.square(0, 4), rays - 1);
            Due.is("the middle of " + rays + " parts", star.square(0, 1), rays > 1 ? 1 : 0);
        }
    }

    private static void noSquare() {
        Sentences.says(7, "NO_SUCH if there is no such square");
        for (int many : new int[] {2, 8, 16}) {
            PartingRoads x = Towns.empty(many);
            for (int wrong : Towns.outside(0, many - 1)) {
                for (int what = 0; what < 5; what++) {
                    Due.is(many + " squares, square(" + wrong + ", " + what + ")", x.square(wrong, what), PartingRoads.NO_SUCH);
                }
            }
            Due.is(many + " squares, the last one", x.square(many - 1, 2), many - 1);
        }
        PartingRoads shrunk = Towns.empty(16);
        shrunk.squares(2);
        Due.is("a square that was there before", shrunk.square(2, 2), PartingRoads.NO_SUCH);
        shrunk.undo();
        Due.is("a square that is there again", shrunk.square(2, 2), 2);
    }

    private static void noWhatOfSquare() {
        Sentences.says(7, "BAD_VALUE if what is out of range");
        PartingRoads x = Towns.row(2);
        for (int wrong : Towns.outside(0, 4)) {
            Due.is("square(0, " + wrong + ")", x.square(0, wrong), PartingRoads.BAD_VALUE);
            Due.is("square(1, " + wrong + ")", x.square(1, wrong), PartingRoads.BAD_VALUE);
            Due.is("no square: square(2, " + wrong + ")", x.square(2, wrong), PartingRoads.NO_SUCH);
        }
    }

    private static void squaresOfDistrict() {
        Sentences.says(8, "0 its squares, as a set");
        Due.is("all", Towns.ring(16).district(0, 0), 65535);
        Due.is("the first of two", Towns.row(2).district(0, 0), 1);
        Due.is("the last of two", Towns.row(2).district(1, 0), 2);
        Due.is("the last of 16", Towns.row(16).district(15, 0), 32768);
    }

    private static void lengthsOfDistrict() {
        Sentences.says(8, "1 the sum of the lengths of the roads within it");
        Due.is("no roads at all", Towns.empty(2).district(0, 1), 0);
        Due.is("only roads that part", Towns.row(16).district(7, 1), 0);
        Due.is("the most", Towns.manyRoads(30, 99).district(0, 1), 2970);
        Due.is("the greatest ring", Towns.ring(16).district(0, 1), 136);
        Due.is("a road that parts is left out", Towns.read(3, "0-1:5;0-1:6;1-2:99").district(0, 1), 11);
    }

    private static void roadsOutOfDistrict() {
        Sentences.says(8, "2 how many roads that part go out of it");
        Due.is("no roads at all", Towns.empty(2).district(1, 2), 0);
        Due.is("roads within it alone", Towns.ring(16).district(0, 2), 0);
        Due.is("the end of a row", Towns.row(16).district(15, 2), 1);
        Due.is("the inside of a row", Towns.row(16).district(14, 2), 2);
        Due.is("the most", Towns.star(16, 15).district(0, 2), 15);
        Due.is("a ray", Towns.star(16, 15).district(15, 2), 1);
    }

    private static void ringsOfDistrict() {
        Sentences.says(8, "3 its rings that are independent: the roads within it, less its squares, and 1");
        Due.is("no roads at all", Towns.empty(2).district(1, 3), 0);
        Due.is("only roads that part", Towns.star(16, 15).district(0, 3), 0);
        Due.is("one ring of two", Towns.manyRoads(2, 1).district(0, 3), 1);
        Due.is("one ring of all", Towns.ring(16).district(0, 3), 1);
        Due.is("the most", Towns.manyRoads(30, 1).district(0, 3), 29);
    }

    private static void noDistrict() {
        Sentences.says(8, "NO_SUCH if there is no such district");
        for (int many : new int[] {2, 8, 16}) {
            PartingRoads x = Towns.empty(many);
            for (int wrong : Towns.outside(0, many - 1)) {
                for (int what = 0; what < 4; what++) {
                    Due.is(many + " districts, district(" + wrong + ", " + what + ")", x.district(wrong, what), PartingRoads.NO_SUCH);
                }
            }
            Due.is(many + " districts, the last one", x.district(many - 1, 0), 1 << many - 1);
        }
        PartingRoads ring = Towns.ring(16);
        for (int wrong : Towns.outside(0, 0)) {
            Due.is("one district, district(" + wrong + ", 0)", ring.district(wrong, 0), PartingRoads.NO_SUCH);
        }
        ring.lose(0);
        Due.is("16 districts, the last one", ring.district(15, 0), 32768);
        ring.undo();
        Due.is("one district again", ring.district(1, 0), PartingRoads.NO_SUCH);
    }

    private static void noWhatOfDistrict() {
        Sentences.says(8, "BAD_VALUE if what is out of range");
        PartingRoads x = Towns.row(2);
        for (int wrong : Towns.outside(0, 3)) {
            Due.is("district(0, " + wrong + ")", x.district(0, wrong), PartingRoads.BAD_VALUE);
            Due.is("district(1, " + wrong + ")", x.district(1, wrong), PartingRoads.BAD_VALUE);
            Due.is("no district: district(2, " + wrong + ")", x.district(2, wrong), PartingRoads.NO_SUCH);
        }
    }

    private static void longestDistrict() {
        Sentences.says(9, "6 the district with the greatest sum of lengths, of several the lowest one");
        Due.is("no roads at all", Towns.empty(16).count(6), 0);
        Due.is("only roads that part", Towns.row(16).count(6), 0);
        Due.is("just one", Towns.ring(16).count(6), 0);
        Due.is("the second one", Towns.read(4, "1-2:1;2-1:1").count(6), 1);
        PartingRoads x = Towns.read(16, "14-15:1;15-14:1");
        Due.is("the last one", x.count(6), 14);
        Due.putAll(x, "2-3:1;2-3:1;5-6:1;5-6:1");
        x.read();
        Due.is("of three", x.count(6), 2);
        x.build(5, 6, 1);
        Due.is("the second one is longer", x.count(6), 4);
        x.build(14, 15, 1);
        Due.is("of two", x.count(6), 4);
        x.build(14, 15, 1);
        Due.is("the last one is longer", x.count(6), 12);
        x.build(0, 1, 99);
        Due.is("a long road that parts is in none", x.count(6), 12);
    }

    private static void leastAndMostNumbers() {
        Sentences.says(9, "7 the sum of the lengths of all roads, 8 the length of the pad, 9 how many changes can be undone");
        int[][] due = {{2, 0, 2, 0, 0, 2, 0, 0, 0, 1}, {8, 30, 7, 0, 0, 7, 0, 2970, 80, 6}, {16, 0, 16, 0, 0, 16, 0, 0, 0, 1}, {16, 15, 1, 15, 14, 16, 0, 120, 0, 6},
            {16, 16, 1, 0, 0, 1, 0, 136, 0, 6}};
        PartingRoads full = Towns.manyRoads(30, 99);
        Due.putAll(full, "~".repeat(80));
        PartingRoads[] towns = {Towns.empty(2), full, Towns.empty(16), Towns.row(16), Towns.ring(16)};
        for (int town = 0; town < towns.length; town++) {
            for (int what = 0; what < 10; what++) {
                Due.is("town " + town + ", count(" + what + ")", towns[town].count(what), due[town][what]);
            }
        }
    }

    private static void noWhatOfCount() {
        Sentences.says(9, "BAD_VALUE if what is out of range");
        PartingRoads x = new PartingRoads();
        for (int wrong : Towns.outside(0, 9)) {
            Due.is("count(" + wrong + ")", x.count(wrong), PartingRoads.BAD_VALUE);
        }
    }
}
