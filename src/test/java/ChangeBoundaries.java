/** The boundaries of promises 1 to 5: a new object, and what changes the town. */
final class ChangeBoundaries {
    private ChangeBoundaries() {}

    static void all() {
        newObject();
        howManySquares();
        squaresOutOfRange();
        squaresWithRoadInTheWay();
        squaresBefore();
        buildLengths();
        buildNoSquare();
        buildBadValue();
        buildTooMany();
        buildPieces();
        loseNoRoad();
        losePieces();
        readAll();
        readIsOneChange();
        readBadText();
        readNoSquare();
        readTheSame();
        readTooMany();
    }

    private static void newObject() {
        Sentences.says(1, "Creates eight squares without roads.");
        PartingRoads x = new PartingRoads();
        Due.is("squares", x.count(0), 8);
        Due.is("roads", x.count(1), 0);
        Due.is("the last square", x.square(7, 3), 128);
        Due.is("no ninth square", x.square(8, 3), PartingRoads.NO_SUCH);
        Due.is("no first road", x.road(0, 0), PartingRoads.NO_SUCH);
        Due.is("no text", x.count(8), 0);
        Due.is("no text to wipe", x.wipe(), 0);
        Due.is("no changes", x.undo(), PartingRoads.NOT_POSSIBLE);
        Due.is("nothing in slot 0", x.restore(0), PartingRoads.NOT_POSSIBLE);
        Due.is("nothing in slot 1", x.restore(1), PartingRoads.NOT_POSSIBLE);
        x.build(0, 1, 2);
        x.save(0);
        x.put('7');
        PartingRoads other = new PartingRoads();
        Due.is("another object's roads", other.count(1), 0);
        Due.is("another object's text", other.count(8), 0);
        Due.is("another object's changes", other.count(9), 0);
        Due.is("another object's slot", other.restore(0), PartingRoads.NOT_POSSIBLE);
    }

    private static void howManySquares() {
        Sentences.says(2, "`many`: 2 to 16");
        for (int many = 2; many <= 16; many++) {
            PartingRoads x = new PartingRoads();
            Due.is("squares(" + many + ")", x.squares(many), 8);
            Due.is("there are " + many, x.count(0), many);
            Due.is("pieces of " + many, x.count(2), many);
            Due.is("districts of " + many, x.count(5), many);
            Due.is("the last of " + many, x.square(many - 1, 3), 1 << many - 1);
            Due.is("none behind the last of " + many, x.square(many, 3), PartingRoads.NO_SUCH);
        }
    }

    private static void squaresOutOfRange() {
        Sentences.says(2, "BAD_VALUE if many is out of range");
        PartingRoads x = new PartingRoads();
        for (int wrong : Towns.outside(2, 16)) {
            Due.is("squares(" + wrong + ")", x.squares(wrong), PartingRoads.BAD_VALUE);
        }
        Due.is("still eight", x.count(0), 8);
        Due.is("no changes", x.count(9), 0);
    }

    private static void squaresWithRoadInTheWay() {
        Sentences.says(2, "NOT_POSSIBLE if a road goes to a square that would not be there");
        for (int highest = 2; highest < 16; highest++) {
            PartingRoads x = Towns.empty(16);
            x.build(0, 1, 1);
            x.build(highest, highest - 1, 1);
            x.build(1, 0, 1);
            Due.is("a road to " + highest + ", squares(2)", x.squares(2), PartingRoads.NOT_POSSIBLE);
            Due.is("a road to " + highest + ", one too few", x.squares(highest), PartingRoads.NOT_POSSIBLE);
            Due.is("a road to " + highest + ", the same number", x.squares(16), 16);
            Due.is("a road to " + highest + ", just enough", x.squares(highest + 1), 16);
            Due.is("a road to " + highest + ", still one too few", x.squares(highest), PartingRoads.NOT_POSSIBLE);
            x.lose(1);
            Due.is("no road to " + highest + " any more", x.squares(highest), highest + 1);
            Due.is("the other roads stay", x.count(1), 2);
        }
        PartingRoads two = Towns.empty(16);
        two.build(0, 1, 1);
        Due.is("a road to 1, squares(2)", two.squares(2), 16);
    }

    private static void squaresBefore() {
        Sentences.says(2, "Returns the previous number");
        PartingRoads x = new PartingRoads();
        Due.is("of a new object", x.squares(16), 8);
        Due.is("the most, again", x.squares(16), 16);
        Due.is("from the most to the fewest", x.squares(2), 16);
        Due.is("the fewest, again", x.squares(2), 2);
        Due.is("a refused one", x.squares(17), PartingRoads.BAD_VALUE);
        Due.is("after a refused one", x.squares(9), 2);
        Due.is("undo", x.undo(), 4);
        Due.is("after undo", x.squares(5), 2);
        Due.is("after all", x.count(0), 5);
        PartingRoads shrunk = Towns.ring(16);
        for (int road = 15; road >= 7; road--) {
            shrunk.lose(road);
        }
        Due.is("a row of 8 is left", shrunk.squares(8), 16);
        Due.is("its pieces", shrunk.count(2), 1);
        Due.is("grown again", shrunk.squares(16), 8);
        Due.is("pieces, grown again", shrunk.count(2), 9);
        Due.is("a new square's set", shrunk.square(15, 3), 32768);
        Due.is("a new square's roads", shrunk.square(15, 0), 0);
        Due.is("a new square's district", shrunk.square(15, 2), 15);
    }

    private static void buildLengths() {
        Sentences.says(3, "`length`: 1 to 99");
        PartingRoads x = new PartingRoads();
        for (int length = 1; length <= 99; length++) {
            Due.is("build(0, 1, " + length + ")", x.build(0, 1, length), 7);
            Due.is("its length", x.road(0, 2), length);
            Due.is("the way's length", x.way(1, 0, 0), length);
            x.lose(0);
        }
    }

    private static void buildNoSquare() {
        Sentences.says(3, "NO_SUCH if there is no such square");
        for (int many : new int[] {2, 8, 16}) {
            PartingRoads x = Towns.empty(many);
            for (int wrong : Towns.outside(0, many - 1)) {
                Due.is(many + " squares, build(" + wrong + ", 0, 1)", x.build(wrong, 0, 1), PartingRoads.NO_SUCH);
                Due.is(many + " squares, build(0, " + wrong + ", 1)", x.build(0, wrong, 1), PartingRoads.NO_SUCH);
            }
            Due.is(many + " squares, no roads", x.count(1), 0);
            Due.is(many + " squares, from the first to the last", x.build(0, many - 1, 1), many - 1);
            Due.is(many + " squares, from the last to the first", x.build(many - 1, 0, 1), many - 1);
        }
        PartingRoads shrunk = Towns.empty(16);
        shrunk.squares(3);
        Due.is("a square that was there before", shrunk.build(0, 3, 1), PartingRoads.NO_SUCH);
    }

    private static void buildBadValue() {
        Sentences.says(3, "BAD_VALUE if both are the same, or length is out of range");
        PartingRoads x = Towns.empty(16);
        for (int square = 0; square < 16; square++) {
            Due.is("build(" + square + ", " + square + ", 1)", x.build(square, square, 1), PartingRoads.BAD_VALUE);
        }
        for (int wrong : Towns.outside(1, 99)) {
            Due.is("build(0, 1, " + wrong + ")", x.build(0, 1, wrong), PartingRoads.BAD_VALUE);
        }
        Due.is("no roads", x.count(1), 0);
    }

    private static void buildTooMany() {
        Sentences.says(3, "TOO_MANY if there are 30 roads");
        PartingRoads x = Towns.manyRoads(29, 1);
        Due.is("the thirtieth", x.build(2, 3, 1), 6);
        Due.is("one more", x.build(4, 5, 1), PartingRoads.TOO_MANY);
        Due.is("one more again", x.build(4, 5, 1), PartingRoads.TOO_MANY);
        Due.is("pieces", x.count(2), 6);
        x.lose(0);
        Due.is("the thirtieth again", x.build(4, 5, 1), 5);
        Due.is("one more than again", x.build(6, 7, 1), PartingRoads.TOO_MANY);
        Due.is("undo", x.undo(), 5);
        Due.is("the thirtieth after undo", x.build(6, 7, 1), 5);
        Due.is("one more after undo", x.build(4, 5, 1), PartingRoads.TOO_MANY);
    }

    private static void buildPieces() {
        Sentences.says(3, "Returns how many pieces there are then");
        PartingRoads x = Towns.empty(4);
        Due.is("it joins two squares", x.build(0, 1, 1), 3);
        Due.is("it joins nothing", x.build(1, 0, 1), 3);
        Due.is("it joins two others", x.build(3, 2, 1), 2);
        Due.is("it joins two pieces", x.build(2, 0, 1), 1);
        Due.is("all are joined", x.build(3, 1, 1), 1);
    }

    private static void loseNoRoad() {
        Sentences.says(4, "NO_SUCH if there is no such road");
        PartingRoads none = new PartingRoads();
        for (int wrong : Towns.outside(0, -1)) {
            Due.is("no roads, lose(" + wrong + ")", none.lose(wrong), PartingRoads.NO_SUCH);
        }
        for (int roads : new int[] {1, 2, 29, 30}) {
            PartingRoads x = Towns.manyRoads(roads, 1);
            for (int wrong : Towns.outside(0, roads - 1)) {
                Due.is(roads + " roads, lose(" + wrong + ")", x.lose(wrong), PartingRoads.NO_SUCH);
            }
            Due.is(roads + " roads, the last one", x.lose(roads - 1), roads == 1 ? 8 : 7);
            Due.is(roads + " roads, the last one again", x.lose(roads - 1), PartingRoads.NO_SUCH);
            Due.is(roads + " roads, one fewer", x.count(1), roads - 1);
        }
    }

    private static void losePieces() {
        Sentences.says(4, "Returns how many pieces there are then");
        PartingRoads x = Towns.manyRoads(30, 1);
        for (int left = 29; left >= 0; left--) {
            Due.is("with " + left + " left", x.lose(left / 2), left == 0 ? 8 : 7);
        }
        Due.is("none left", x.lose(0), PartingRoads.NO_SUCH);
        PartingRoads ring = Towns.ring(16);
        Due.is("of a ring", ring.lose(3), 1);
        Due.is("of a row", ring.lose(3), 2);
    }

    private static void readAll() {
        Sentences.says(5, "Builds all roads of the pad, one after the other, and empties the pad.");
        PartingRoads x = new PartingRoads();
        Due.putAll(x, "1-0:1");
        Due.is("just one", x.read(), 1);
        Due.is("its lower square", x.road(0, 0), 0);
        Due.is("its higher square", x.road(0, 1), 1);
        Due.is("the pad is empty", x.count(8), 0);
        Due.is("an empty pad's fault", x.fault(), 0);
        Due.is("it can be filled again", Due.putAll(x, "0-1:2;0-1:3;0-1:4;0-1:5;0-1:6;0-1:7;0-1:8;0-1:9;0-1:1;0-1:2;0-1:3;0-1:4;0-1:99"), 78);
        Due.is("thirteen, the most that have room", x.read(), 14);
        int[] lengths = {1, 2, 3, 4, 5, 6, 7, 8, 9, 1, 2, 3, 4, 99};
        for (int road = 0; road < lengths.length; road++) {
            Due.is("road " + road, x.road(road, 2), lengths[road]);
        }
        PartingRoads wide = Towns.empty(16);
        Due.is("a full pad", Due.putAll(wide, "15-14:99;14-13:98;13-12:97;12-11:96;11-10:5;10-9:9;9-8:8;8-7:7;7-6:6;6-5:5;5-4:4"), 80);
        Due.is("a full pad is read", wide.read(), 11);
        Due.is("its last road", wide.road(10, 2), 4);
        Due.is("its last road's lower square", wide.road(10, 0), 4);
    }

    private static void readIsOneChange() {
        Sentences.says(5, "This is a change.");
        PartingRoads x = new PartingRoads();
        Due.putAll(x, "0-1:1;1-2:1;2-3:1;3-4:1;4-5:1;5-6:1;6-7:1");
        Due.is("seven roads", x.read(), 7);
        Due.is("one change", x.count(9), 1);
        Due.is("undo takes all of them back", x.undo(), 0);
        Due.is("no roads", x.count(1), 0);
        Due.is("the pad stays empty", x.count(8), 0);
    }

    private static void readBadText() {
        Sentences.says(5, "BAD_TEXT if the pad has a fault");
        PartingRoads x = new PartingRoads();
        Due.is("no text", x.read(), PartingRoads.BAD_TEXT);
        String text = "0-1:1;15-0:10";
        for (int length = 1; length < text.length(); length++) {
            if (length == 5 || length == 12) continue;
            Due.putAll(x, text.substring(0, length));
            Due.is("read() of " + text.substring(0, length), x.read(), PartingRoads.BAD_TEXT);
            Due.is("it stays", x.wipe(), length);
        }
        for (String wrong : new String[] {"0-1:1;0-16:1", "0-1:100", "0-1:0", "00-1:1", "0-1:01", "0-1:1,0-1:1", "0-1:1;;0-1:1", ";0-1:1", "!", "~"}) {
            Due.putAll(x, wrong);
            Due.is("read() of " + wrong, x.read(), PartingRoads.BAD_TEXT);
            x.wipe();
        }
        Due.is("no roads", x.count(1), 0);
        Due.is("no changes", x.count(9), 0);
    }

    private static void fails(PartingRoads x, String text, int due) {
        int roads = x.count(1);
        Due.putAll(x, text);
        Due.is("read() of " + text, x.read(), due);
        Due.is("the pad keeps " + text, x.wipe(), text.length());
        Due.is("no roads of " + text, x.count(1), roads);
    }

    private static void readNoSquare() {
        Sentences.says(5, "NO_SUCH if a square of a road is not there");
        for (int many = 2; many < 16; many++) {
            PartingRoads x = Towns.empty(many);
            fails(x, many + "-0:1", PartingRoads.NO_SUCH);
            fails(x, "0-" + many + ":1", PartingRoads.NO_SUCH);
            fails(x, "0-1:1;1-0:1;" + many + "-1:1", PartingRoads.NO_SUCH);
            fails(x, "1-15:1;1-0:1", PartingRoads.NO_SUCH);
            fails(x, "15-15:1", PartingRoads.NO_SUCH);
            Due.putAll(x, "0-" + (many - 1) + ":1");
            Due.is("the last of " + many + " squares", x.read(), 1);
        }
        PartingRoads most = Towns.empty(16);
        Due.putAll(most, "15-14:1");
        Due.is("16 squares, no other is missing", most.read(), 1);
    }

    private static void readTheSame() {
        Sentences.says(5, "BAD_VALUE if both squares of a road are the same");
        PartingRoads x = Towns.empty(16);
        for (int square = 0; square < 16; square++) {
            fails(x, square + "-" + square + ":1", PartingRoads.BAD_VALUE);
            fails(x, "0-1:1;" + square + "-" + square + ":1", PartingRoads.BAD_VALUE);
            fails(x, square + "-" + square + ":1;1-0:1", PartingRoads.BAD_VALUE);
        }
    }

    private static void readTooMany() {
        Sentences.says(5, "TOO_MANY if there would be more than 30 (in this order, each for all roads of the pad)");
        String thirteen = "0-1:1;".repeat(12) + "0-1:1";
        PartingRoads x = Towns.manyRoads(17, 1);
        Due.putAll(x, thirteen);
        Due.is("17 and 13", x.read(), 30);
        fails(x, "0-1:1", PartingRoads.TOO_MANY);
        PartingRoads y = Towns.manyRoads(18, 1);
        fails(y, thirteen, PartingRoads.TOO_MANY);
        PartingRoads z = Towns.manyRoads(29, 1);
        fails(z, "0-1:1;0-1:1", PartingRoads.TOO_MANY);
        fails(z, "0-1:1;0-1:1;0-0:1", PartingRoads.BAD_VALUE);
        fails(z, "0-0:1;0-1:1;0-8:1", PartingRoads.NO_SUCH);
        fails(z, "0-1:1;0-0:1;8-0:1", PartingRoads.NO_SUCH);
        fails(z, "0-0:1;0-1:1;0-8:1;", PartingRoads.BAD_TEXT);
        fails(z, "0-0:1;0-8:1;0-16:1", PartingRoads.BAD_TEXT);
        Due.putAll(z, "0-1:1");
        Due.is("29 and 1", z.read(), 30);
        fails(z, "0-0:1", PartingRoads.BAD_VALUE);
        fails(z, "8-8:1", PartingRoads.NO_SUCH);
        fails(z, "8-8:", PartingRoads.BAD_TEXT);
    }
}
