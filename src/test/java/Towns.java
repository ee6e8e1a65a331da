import java.util.stream.IntStream;

/** Towns that several tests start from, and numbers that lie outside a range. */
final class Towns {
    static final int LOW = Integer.MIN_VALUE;
    static final int HIGH = Integer.MAX_VALUE;

    private Towns() {}

    static PartingRoads empty(int squares) {
        PartingRoads x = new PartingRoads();
        Due.is("a town of " + squares + ": squares()", x.squares(squares), 8);
        return x;
    }

    static PartingRoads read(int squares, String text) {
        PartingRoads x = empty(squares);
        Due.is("a town of " + text + ": put()", Due.putAll(x, text), text.length());
        Due.is("a town of " + text + ": read()", x.read(), text.split(";").length);
        return x;
    }

    /** Squares 0 - 1 - 2 - .. in a row, with roads of the lengths 1, 2, 3 .. */
    static PartingRoads row(int squares) {
        PartingRoads x = empty(squares);
        for (int square = 1; square < squares; square++) {
            Due.is("a row of " + squares + ": build()", x.build(square - 1, square, square), squares - square);
        }
        return x;
    }

    /** A row, closed by a road from the last square to square 0. */
    static PartingRoads ring(int squares) {
        PartingRoads x = row(squares);
        Due.is("a ring of " + squares + ": build()", x.build(squares - 1, 0, squares), 1);
        return x;
    }

    /** Square 0 in the middle, a road to each of so many others. */
    static PartingRoads star(int squares, int rays) {
        PartingRoads x = empty(squares);
        for (int ray = 1; ray <= rays; ray++) {
            Due.is("a star of " + rays + ": build()", x.build(0, ray, ray), squares - ray);
        }
        return x;
    }

    /** So many roads between the squares 0 and 1 of eight, all of the same length. */
    static PartingRoads manyRoads(int roads, int length) {
        PartingRoads x = new PartingRoads();
        for (int road = 0; road < roads; road++) {
            Due.is("many roads: build()", x.build(road % 2, 1 - road % 2, length), 7);
        }
        return x;
    }

    /** Two rings of three and of four squares, joined by road 3; road 8 leads out to square 7; square 8 stands alone. */
    static PartingRoads twoRings() {
        return read(9, "0-1:4;1-2:5;2-0:6;3-2:7;3-4:1;4-5:2;5-6:3;6-3:4;5-7:9");
    }

    /** Numbers next to the range, far from it, and such as look like one of it when their upper bits or their sign are lost. */
    static int[] outside(int least, int greatest) {
        int[] some = {least - 1, greatest + 1, -1, greatest + 2, LOW, LOW + 1, HIGH, HIGH - 1, LOW + least, LOW + greatest, ~least, ~greatest, -greatest,
            least + 16, least + 32, greatest + 32, least + 64, least + 256, greatest + 256, least + 65536, least - 32, least - 256, least - 65536, 1000};
        return IntStream.of(some).filter(number -> number < least || number > greatest).distinct().toArray();
    }
}
