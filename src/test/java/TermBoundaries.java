/** The boundaries that the document's terms name, but for those of texts, which PadBoundaries has. */
final class TermBoundaries {
    private static final String TERMS = "Terms";

    private TermBoundaries() {}

    static void all() {
        calls();
        errorCodes();
        errorsInOrder();
        noneIsNoError();
        numberedFromZero();
        sets();
        mostSquares();
        mostRoads();
        roadsMoveUp();
        lengths();
        severalRoads();
        pieces();
        roadsThatPart();
        squaresThatPart();
        ringsOfTwo();
        ringsOfUnlikeSquares();
        districts();
        orderOfDistricts();
        treeOfDistricts();
        wayOfDistricts();
    }

    private static void calls() {
        Sentences.says("What it is", "An object is used for at most 512 calls after it has been made");
        PartingRoads x = new PartingRoads();
        for (int pair = 0; pair < 255; pair++) {
            Due.is("build", x.build(pair % 7, 7, 1), 7);
            Due.is("undo", x.undo(), 0);
        }
        Due.is("the 511th call", x.build(0, 1, 1), 7);
        Due.is("the 512th call", x.count(9), 1);
        PartingRoads y = new PartingRoads();
        for (int call = 1; call < 512; call++) {
            Due.is("build, call " + call, y.build(0, 1, 1), call <= 30 ? 7 : PartingRoads.TOO_MANY);
        }
        Due.is("the 512th call", y.count(1), 30);
        PartingRoads z = new PartingRoads();
        for (int call = 1; call < 512; call++) {
            Due.is("put, call " + call, z.put('0'), call <= 80 ? call : PartingRoads.TOO_MANY);
        }
        Due.is("the 512th call", z.fault(), 1);
    }

    private static void errorCodes() {
        Sentences.says(TERMS, "NO_SUCH (-1), BAD_VALUE (-2), BAD_TEXT (-3), TOO_MANY (-4) and NOT_POSSIBLE (-5)");
        Due.is("NO_SUCH", PartingRoads.NO_SUCH, -1);
        Due.is("BAD_VALUE", PartingRoads.BAD_VALUE, -2);
        Due.is("BAD_TEXT", PartingRoads.BAD_TEXT, -3);
        Due.is("TOO_MANY", PartingRoads.TOO_MANY, -4);
        Due.is("NOT_POSSIBLE", PartingRoads.NOT_POSSIBLE, -5);
        PartingRoads x = Towns.manyRoads(30, 1);
        Due.is("NO_SUCH is answered", x.build(0, 8, 1), -1);
        Due.is("BAD_VALUE is answered", x.build(0, 0, 1), -2);
        Due.is("BAD_TEXT is answered", x.read(), -3);
        Due.is("TOO_MANY is answered", x.build(0, 1, 1), -4);
        Due.is("NOT_POSSIBLE is answered", x.restore(0), -5);
    }

    private static void errorsInOrder() {
        Sentences.says(TERMS, "it names its errors in the order in which they are checked, and the first one that applies is returned");
        PartingRoads x = Towns.read(9, "0-8:1");
        Due.is("squares: too few, and the road's square gone", x.squares(1), PartingRoads.BAD_VALUE);
        Due.is("squares: far too few, and the road's square gone", x.squares(Towns.LOW), PartingRoads.BAD_VALUE);
        Due.is("build: no square, both the same", x.build(9, 9, 1), PartingRoads.NO_SUCH);
        Due.is("build: no other square, no length", x.build(0, 9, 0), PartingRoads.NO_SUCH);
        Due.is("build: no one square, too long", x.build(-1, 0, 100), PartingRoads.NO_SUCH);
        Due.is("road: no road, no what", x.road(1, 6), PartingRoads.NO_SUCH);
        Due.is("square: no square, no what", x.square(9, 5), PartingRoads.NO_SUCH);
        Due.is("district: no district, no what", x.district(9, 4), PartingRoads.NO_SUCH);
        Due.is("way: no square, no what", x.way(0, 9, 3), PartingRoads.NO_SUCH);
        Due.is("must: no square, no place", x.must(9, 0, -1), PartingRoads.NO_SUCH);
        Due.is("ifBuilt: no square, both the same", x.ifBuilt(9, 9, 0), PartingRoads.NO_SUCH);
        Due.is("ifBuilt: no square, no what", x.ifBuilt(0, -1, 3), PartingRoads.NO_SUCH);
        Due.is("restore: no slot, nothing saved", x.restore(2), PartingRoads.BAD_VALUE);
        Due.putAll(x, "~".repeat(80));
        Due.is("put: no character, a full pad", x.put(0), PartingRoads.BAD_VALUE);
        Due.is("put: a wrong code, a full pad", x.put(32), PartingRoads.BAD_VALUE);
        PartingRoads full = Towns.manyRoads(30, 1);
        Due.is("build: no square, 30 roads", full.build(8, 0, 1), PartingRoads.NO_SUCH);
        Due.is("build: both the same, 30 roads", full.build(1, 1, 1), PartingRoads.BAD_VALUE);
        Due.is("build: no length, 30 roads", full.build(0, 1, 0), PartingRoads.BAD_VALUE);
        Due.is("build: too long, 30 roads", full.build(0, 1, 100), PartingRoads.BAD_VALUE);
    }

    private static void noneIsNoError() {
        Sentences.says(TERMS, "NONE (-6) is not an error; it is returned only if no error applies");
        Due.is("NONE", PartingRoads.NONE, -6);
        PartingRoads x = new PartingRoads();
        Due.is("way: no such square", x.way(0, 8, 0), PartingRoads.NO_SUCH);
        Due.is("way: apart, no what", x.way(0, 1, 3), PartingRoads.BAD_VALUE);
        Due.is("way: apart, what below 0", x.way(0, 1, -1), PartingRoads.BAD_VALUE);
        Due.is("way: apart", x.way(0, 1, 2), -6);
        Due.is("must: no such square", x.must(8, 0, 0), PartingRoads.NO_SUCH);
        Due.is("must: apart, place below 0", x.must(0, 1, -1), PartingRoads.BAD_VALUE);
        Due.is("must: apart", x.must(0, 1, 0), -6);
        Due.is("must: the same square, place below 0", x.must(1, 1, -1), PartingRoads.BAD_VALUE);
        Due.is("must: the same square", x.must(1, 1, 0), -6);
        Due.is("worstLoss: no roads, no what", x.worstLoss(2), PartingRoads.BAD_VALUE);
        Due.is("worstLoss: no roads, what below 0", x.worstLoss(-1), PartingRoads.BAD_VALUE);
        Due.is("worstLoss: no roads", x.worstLoss(1), -6);
        Due.is("road: no such road's ring", x.road(0, 4), PartingRoads.NO_SUCH);
        x.build(0, 1, 1);
        Due.is("road: no ring", x.road(0, 4), -6);
        Due.putAll(x, "0-1:1");
        Due.is("fault: there is none", x.fault(), -6);
    }

    private static void numberedFromZero() {
        Sentences.says(TERMS, "Everything is numbered from 0.");
        PartingRoads x = Towns.empty(2);
        Due.is("squares 0 and 1", x.build(0, 1, 7), 1);
        Due.is("road 0", x.road(0, 2), 7);
        Due.is("no road 1", x.road(1, 2), PartingRoads.NO_SUCH);
        Due.is("no road -1", x.road(-1, 2), PartingRoads.NO_SUCH);
        Due.is("square 0", x.square(0, 0), 1);
        Due.is("square 1", x.square(1, 0), 1);
        Due.is("no square 2", x.square(2, 0), PartingRoads.NO_SUCH);
        Due.is("no square -1", x.square(-1, 0), PartingRoads.NO_SUCH);
        Due.is("district 0", x.district(0, 0), 1);
        Due.is("district 1", x.district(1, 0), 2);
        Due.is("no district 2", x.district(2, 0), PartingRoads.NO_SUCH);
        Due.is("no district -1", x.district(-1, 0), PartingRoads.NO_SUCH);
        Due.is("place 0", x.must(1, 0, 0), 0);
        Due.is("no place 1", x.must(1, 0, 1), PartingRoads.NONE);
        Due.is("slot 0", x.save(0), 1);
        Due.is("slot 1", x.save(1), 1);
        Due.is("no slot 2", x.save(2), PartingRoads.BAD_VALUE);
        Due.is("no slot -1", x.save(-1), PartingRoads.BAD_VALUE);
    }

    private static void sets() {
        Sentences.says(TERMS, "Sets of squares are bit masks.");
        PartingRoads apart = Towns.empty(16);
        PartingRoads ring = Towns.ring(16);
        PartingRoads row = Towns.row(16);
        for (int square = 0; square < 16; square++) {
            Due.is("alone, square " + square, apart.square(square, 3), 1 << square);
            Due.is("alone, district " + square, apart.district(square, 0), 1 << square);
            Due.is("all together, square " + square, ring.square(square, 3), 65535);
        }
        Due.is("all together, the district", ring.district(0, 0), 65535);
        Due.is("cut off, all but square 0", row.cutOff(0, 0), 65534);
        Due.is("cut off, square 0 alone", row.cutOff(1, 0), 1);
        Due.is("cut off, all but square 15", row.cutOff(15, 14), 32767);
        Due.is("cut off, square 15 alone", row.cutOff(0, 14), 32768);
    }

    private static void mostSquares() {
        Sentences.says(TERMS, "2 to 16 of them; 8 at first");
        PartingRoads x = new PartingRoads();
        Due.is("at first", x.count(0), 8);
        Due.is("one", x.squares(1), PartingRoads.BAD_VALUE);
        Due.is("two", x.squares(2), 8);
        Due.is("between both of two", x.build(1, 0, 1), 1);
        Due.is("17", x.squares(17), PartingRoads.BAD_VALUE);
        Due.is("16", x.squares(16), 2);
        Due.is("to the last of 16", x.build(15, 14, 1), 14);
        Due.is("to a 17th", x.build(16, 14, 1), PartingRoads.NO_SUCH);
    }

    private static void mostRoads() {
        Sentences.says(TERMS, "There are up to 30 roads");
        PartingRoads x = Towns.empty(16);
        for (int road = 0; road < 30; road++) {
            Due.is("road " + road, x.build(road / 2, road / 2 + 1, road + 1), 15 - road / 2);
        }
        Due.is("one more", x.build(0, 15, 1), PartingRoads.TOO_MANY);
        Due.putAll(x, "0-15:1");
        Due.is("one more from the pad", x.read(), PartingRoads.TOO_MANY);
        Due.is("how many", x.count(1), 30);
        for (int road = 0; road < 30; road++) {
            int[] due = {road / 2, road / 2 + 1, road + 1, 0, 2, 0};
            for (int what = 0; what < due.length; what++) {
                Due.is("road(" + road + ", " + what + ")", x.road(road, what), due[what]);
            }
        }
        Due.is("all in one district", x.district(0, 0), 65535);
        Due.is("no loss parts", x.worstLoss(1), 0);
    }

    private static void roadsMoveUp() {
        Sentences.says(TERMS, "numbered in the order in which they were built (when one is lost, those behind it move up)");
        int[] losses = {0, 29, 14, 1, 28, 15};
        for (int lost : losses) {
            PartingRoads x = new PartingRoads();
            for (int road = 0; road < 30; road++) {
                x.build(road % 7, road % 7 + 1, road + 1);
            }
            Due.is("lose(" + lost + ") of 30", x.lose(lost), 1);
            for (int road = 0; road < 29; road++) {
                int was = road < lost ? road : road + 1;
                Due.is("without " + lost + ", road(" + road + ", 2)", x.road(road, 2), was + 1);
                Due.is("without " + lost + ", road(" + road + ", 0)", x.road(road, 0), was % 7);
                Due.is("without " + lost + ", road(" + road + ", 1)", x.road(road, 1), was % 7 + 1);
            }
            Due.is("without " + lost + ", road(29, 2)", x.road(29, 2), PartingRoads.NO_SUCH);
            Due.is("a new one is the last", x.build(7, 0, 77), 1);
            Due.is("a new one's length", x.road(29, 2), 77);
        }
    }

    private static void lengths() {
        Sentences.says(TERMS, "has a length (1 to 99)");
        PartingRoads x = new PartingRoads();
        Due.is("the shortest", x.build(0, 1, 1), 7);
        Due.is("the longest", x.build(1, 2, 99), 6);
        Due.is("the shortest one's length", x.road(0, 2), 1);
        Due.is("the longest one's length", x.road(1, 2), 99);
        Due.is("both", x.way(0, 2, 0), 100);
    }

    private static void severalRoads() {
        Sentences.says(TERMS, "between two squares there can be several roads");
        PartingRoads x = Towns.manyRoads(1, 5);
        Due.is("one parts", x.road(0, 3), 1);
        for (int roads = 2; roads <= 30; roads++) {
            Due.is("as long as the others", x.build(1, 0, 5), 7);
            Due.is("how many", x.count(1), roads);
            Due.is("the first one's ring", x.road(0, 4), 2);
            Due.is("the last one's ring", x.road(roads - 1, 4), 2);
            Due.is("none parts", x.count(3), 0);
            Due.is("rings", x.district(0, 3), roads - 1);
        }
        Due.is("roads of square 0", x.square(0, 0), 30);
        Due.is("roads of square 1", x.square(1, 0), 30);
    }

    private static void pieces() {
        Sentences.says(TERMS, "a piece is a greatest set of squares that hang together");
        PartingRoads x = Towns.empty(16);
        Due.is("each by itself", x.count(2), 16);
        for (int square = 1; square < 16; square++) {
            Due.is("one joined more", x.build(square, 0, 1), 16 - square);
            Due.is("its set", x.square(0, 3), (2 << square) - 1);
            Due.is("the joined one's set", x.square(square, 3), (2 << square) - 1);
        }
        Due.is("all in one", x.count(2), 1);
        PartingRoads two = Towns.empty(2);
        Due.is("two apart", two.count(2), 2);
        Due.is("two together", two.build(0, 1, 1), 1);
        Due.is("together by two roads", two.build(0, 1, 1), 1);
        Due.is("together by one again", two.lose(0), 1);
        Due.is("apart again", two.lose(0), 2);
    }

    private static void roadsThatPart() {
        Sentences.says(TERMS, "A road parts if its loss would make one piece more.");
        PartingRoads x = Towns.empty(2);
        Due.is("no roads", x.count(3), 0);
        x.build(0, 1, 1);
        Due.is("the only one", x.road(0, 3), 1);
        x.build(1, 0, 1);
        Due.is("the first of two", x.road(0, 3), 0);
        Due.is("the second of two", x.road(1, 3), 0);
        x.lose(0);
        Due.is("the only one again", x.road(0, 3), 1);
        Due.is("all of a row", Towns.row(16).count(3), 15);
        Due.is("none of a ring", Towns.ring(16).count(3), 0);
        Due.is("none of a ring of three", Towns.ring(3).count(3), 0);
    }

    private static void squaresThatPart() {
        Sentences.says(TERMS, "A square parts if there would be more pieces than now among the other squares, if it was lost with all of its roads.");
        PartingRoads two = Towns.empty(2);
        Due.is("two apart", two.count(4), 0);
        two.build(0, 1, 1);
        Due.is("two together", two.count(4), 0);
        PartingRoads row = Towns.row(16);
        Due.is("a row's inner squares", row.count(4), 14);
        Due.is("a row's first square", row.square(0, 1), 0);
        Due.is("a row's second square", row.square(1, 1), 1);
        Due.is("a row's last square but one", row.square(14, 1), 1);
        Due.is("a row's last square", row.square(15, 1), 0);
        Due.is("a ring", Towns.ring(16).count(4), 0);
        Due.is("a star, square 0 alone", Towns.star(16, 15).count(4), 1);
        Due.is("a star, square 15 alone", Towns.read(16, "15-0:1;15-1:1;15-2:1").count(4), 1);
        PartingRoads three = Towns.row(3);
        Due.is("the middle of three", three.square(1, 1), 1);
        three.build(0, 2, 1);
        Due.is("none of a ring of three", three.count(4), 0);
        PartingRoads doubled = Towns.read(3, "0-1:1;0-1:1;1-2:1;1-2:1");
        Due.is("a square parts where no road does", doubled.square(1, 1), 1);
        Due.is("no road does", doubled.count(3), 0);
    }

    private static void ringsOfTwo() {
        Sentences.says(TERMS, "two roads between the same two squares are a ring");
        PartingRoads x = Towns.read(3, "0-1:9;1-2:9");
        Due.is("one road", x.road(0, 4), PartingRoads.NONE);
        x.build(0, 1, 1);
        Due.is("the first of two", x.road(0, 4), 2);
        Due.is("the second of two", x.road(2, 4), 2);
        Due.is("the one road beside", x.road(1, 4), PartingRoads.NONE);
        x.build(0, 2, 1);
        Due.is("still the least ring", x.road(0, 4), 2);
        Due.is("round by all three", x.road(1, 4), 3);
    }

    private static void ringsOfUnlikeSquares() {
        Sentences.says(TERMS, "A ring is a row of unlike squares, and of unlike roads from each one to the next, and from the last one to the first");
        for (int squares = 3; squares <= 16; squares++) {
            PartingRoads ring = Towns.ring(squares);
            Due.is("a ring of " + squares + ", its first road", ring.road(0, 4), squares);
            Due.is("a ring of " + squares + ", its last road", ring.road(squares - 1, 4), squares);
        }
        PartingRoads joined = Towns.read(6, "0-1:1;1-2:1;2-0:1;2-3:1;3-4:1;4-5:1;5-3:1");
        Due.is("a road between two rings has none", joined.road(3, 4), PartingRoads.NONE);
        PartingRoads eight = Towns.read(8, "0-1:1;1-2:1;2-0:1;2-3:1;3-4:1;4-5:1;5-2:1");
        Due.is("two rings that share a square, the one", eight.road(0, 4), 3);
        Due.is("two rings that share a square, the other", eight.road(3, 4), 4);
    }

    private static void districts() {
        Sentences.says(TERMS, "A district is a greatest set of squares that hang together by roads that do not part.");
        PartingRoads x = Towns.row(16);
        Due.is("a row, each square by itself", x.count(5), 16);
        x.build(0, 15, 1);
        Due.is("a ring is one", x.count(5), 1);
        x.lose(7);
        Due.is("a ring without a road", x.count(5), 16);
        PartingRoads eight = Towns.read(5, "0-1:1;1-2:1;2-0:1;2-3:1;3-4:1;4-2:1");
        Due.is("two rings that share a square are one", eight.count(5), 1);
        PartingRoads apart = Towns.read(4, "0-1:1;0-1:1;2-3:1;2-3:1");
        Due.is("two pieces are two", apart.count(5), 2);
    }

    private static void orderOfDistricts() {
        Sentences.says(TERMS, "Districts are numbered from 0 in the order of their lowest squares.");
        PartingRoads x = Towns.read(16, "14-15:1;15-14:1;0-13:1;13-0:1;1-12:1;12-1:1");
        int[] due = {1 | 1 << 13, 2 | 1 << 12, 4, 8, 16, 32, 64, 128, 256, 512, 1024, 2048, 1 << 14 | 1 << 15};
        for (int district = 0; district < due.length; district++) {
            Due.is("district " + district, x.district(district, 0), due[district]);
        }
        int[] districtOf = {0, 1, 2, 3, 4, 5, 6, 7, 8, 9, 10, 11, 1, 0, 12, 12};
        for (int square = 0; square < 16; square++) {
            Due.is("the district of square " + square, x.square(square, 2), districtOf[square]);
        }
        Due.is("no district behind the last", x.district(13, 0), PartingRoads.NO_SUCH);
    }

    private static void treeOfDistricts() {
        Sentences.says(TERMS, "Each road that parts goes between two districts; with these roads the districts of a piece are a tree.");
        PartingRoads[] towns = {Towns.empty(2), Towns.empty(16), Towns.row(2), Towns.row(16), Towns.ring(16), Towns.star(16, 15), Towns.twoRings(),
            Towns.manyRoads(30, 1), Towns.read(16, "15-0:1;14-1:1;13-2:1;12-3:1;15-14:1;13-12:1;0-1:1")};
        for (int town = 0; town < towns.length; town++) {
            PartingRoads x = towns[town];
            Due.is("town " + town + ": districts", x.count(5), x.count(2) + x.count(3));
            int ends = 0;
            for (int district = 0; district < x.count(5); district++) {
                ends += x.district(district, 2);
            }
            Due.is("town " + town + ": ends of roads that part", ends, 2 * x.count(3));
            for (int road = 0; road < x.count(1); road++) {
                boolean oneDistrict = x.square(x.road(road, 0), 2) == x.square(x.road(road, 1), 2);
                Due.is("town " + town + ", road " + road + " is within a district", oneDistrict ? 1 : 0, 1 - x.road(road, 3));
            }
        }
    }

    private static void wayOfDistricts() {
        Sentences.says(TERMS, "The way between two districts of a piece is the row of districts in this tree from the one to the other");
        Due.is("the longest", Towns.row(16).way(0, 15, 2), 16);
        Due.is("the longest back", Towns.row(16).way(15, 0, 2), 16);
        Due.is("from a district to itself", Towns.row(16).way(7, 7, 2), 1);
        Due.is("within a district", Towns.ring(16).way(0, 8, 2), 1);
        Due.is("to the next one", Towns.row(2).way(0, 1, 2), 2);
        Due.is("over the middle of a star", Towns.star(16, 15).way(1, 15, 2), 3);
    }
}
