import java.util.ArrayList;
import java.util.List;
import java.util.function.Supplier;
import java.util.function.ToIntFunction;

/** Refused calls and questions: of two towns that are the same, the one that was asked stays as the other one. */
final class RefusalBoundaries {
    private RefusalBoundaries() {}

    static void all() {
        refused();
        asked("---- ways; nothing changes.");
        stays("way", RefusalBoundaries::lively, 3, x -> x.way(0, 2, 1) + x.way(0, 2, 2));
        stays("way of lengths", RefusalBoundaries::lively, 9, x -> x.way(0, 2, 0));
        stays("must", RefusalBoundaries::lively, 1, x -> x.must(0, 2, 0));
        stays("must of none", RefusalBoundaries::lively, PartingRoads.NONE, x -> x.must(0, 2, 1));
        stays("cutOff", RefusalBoundaries::lively, 4, x -> x.cutOff(0, 1));
        asked("---- what if; nothing changes.");
        stays("ifBuilt", RefusalBoundaries::lively, 1, x -> x.ifBuilt(0, 2, 0));
        stays("bestBuilt", RefusalBoundaries::lively, 2, x -> x.bestBuilt(0) + x.bestBuilt(1) + x.bestBuilt(2));
        stays("worstLoss", RefusalBoundaries::lively, 1, x -> x.worstLoss(0));
        stays("needed", RefusalBoundaries::lively, 1, x -> x.needed(0));
        Sentences.says(19, "Returns the fault of the pad");
        stays("fault", RefusalBoundaries::lively, 10, PartingRoads::fault);
        stays("fault of none", RefusalBoundaries::crowded, PartingRoads.NONE, PartingRoads::fault);
    }

    private static void asked(String words) {
        Sentences.says("Terms", words);
    }

    /** Nine squares, more changes than are kept, something in slot 0 alone, and a text that has a fault. */
    private static PartingRoads lively() {
        PartingRoads x = Towns.empty(16);
        x.build(8, 9, 3);
        x.build(0, 7, 8);
        x.save(0);
        x.lose(0);
        x.lose(0);
        x.build(0, 1, 4);
        x.build(1, 2, 5);
        x.build(1, 0, 6);
        x.squares(9);
        Due.putAll(x, "0-1:9;9-9:");
        return x;
    }

    /** As many roads as there can be, and one more in the text. */
    private static PartingRoads crowded() {
        PartingRoads x = Towns.manyRoads(30, 2);
        x.save(1);
        Due.putAll(x, "0-2:1");
        return x;
    }

    private static PartingRoads withText(String text) {
        PartingRoads x = new PartingRoads();
        x.build(3, 4, 5);
        x.save(1);
        x.build(2, 3, 4);
        Due.putAll(x, text);
        return x;
    }

    private static void refused() {
        Sentences.says("Terms", "A call that returns an error changes nothing.");
        int noSuch = PartingRoads.NO_SUCH;
        int badValue = PartingRoads.BAD_VALUE;
        int tooMany = PartingRoads.TOO_MANY;
        int notPossible = PartingRoads.NOT_POSSIBLE;
        stays("squares, too few", RefusalBoundaries::lively, badValue, x -> x.squares(1));
        stays("squares, too many", RefusalBoundaries::lively, badValue, x -> x.squares(17));
        stays("squares, a road in the way", RefusalBoundaries::lively, notPossible, x -> x.squares(2));
        stays("build, no one square", RefusalBoundaries::lively, noSuch, x -> x.build(9, 0, 1));
        stays("build, no other square", RefusalBoundaries::lively, noSuch, x -> x.build(0, 9, 1));
        stays("build, the same", RefusalBoundaries::lively, badValue, x -> x.build(4, 4, 1));
        stays("build, too short", RefusalBoundaries::lively, badValue, x -> x.build(4, 5, 0));
        stays("build, too long", RefusalBoundaries::lively, badValue, x -> x.build(4, 5, 100));
        stays("build, 30 roads", RefusalBoundaries::crowded, tooMany, x -> x.build(4, 5, 1));
        stays("lose, no road", RefusalBoundaries::lively, noSuch, x -> x.lose(3));
        stays("lose, road -1", RefusalBoundaries::lively, noSuch, x -> x.lose(-1));
        stays("read, a fault", RefusalBoundaries::lively, PartingRoads.BAD_TEXT, PartingRoads::read);
        stays("read, no text", PartingRoads::new, PartingRoads.BAD_TEXT, PartingRoads::read);
        stays("read, no square", () -> withText("0-1:5;1-2:6;8-1:1"), noSuch, PartingRoads::read);
        stays("read, the same", () -> withText("0-1:5;1-2:6;3-3:1"), badValue, PartingRoads::read);
        stays("read, 30 roads", RefusalBoundaries::crowded, tooMany, PartingRoads::read);
        stays("road, no road", RefusalBoundaries::lively, noSuch, x -> x.road(3, 0));
        stays("road, no what", RefusalBoundaries::lively, badValue, x -> x.road(0, 6));
        stays("square, no square", RefusalBoundaries::lively, noSuch, x -> x.square(9, 0));
        stays("square, no what", RefusalBoundaries::lively, badValue, x -> x.square(0, 5));
        stays("district, no district", RefusalBoundaries::lively, noSuch, x -> x.district(8, 0));
        stays("district, no what", RefusalBoundaries::lively, badValue, x -> x.district(0, 4));
        stays("count, no what", RefusalBoundaries::lively, badValue, x -> x.count(10));
        stays("way, no square", RefusalBoundaries::lively, noSuch, x -> x.way(9, 0, 0));
        stays("way, no what", RefusalBoundaries::lively, badValue, x -> x.way(1, 0, 3));
        stays("must, no square", RefusalBoundaries::lively, noSuch, x -> x.must(0, 9, 0));
        stays("must, no place", RefusalBoundaries::lively, badValue, x -> x.must(0, 1, -1));
        stays("cutOff, no square", RefusalBoundaries::lively, noSuch, x -> x.cutOff(9, 0));
        stays("cutOff, no road", RefusalBoundaries::lively, noSuch, x -> x.cutOff(0, 3));
        stays("ifBuilt, no square", RefusalBoundaries::lively, noSuch, x -> x.ifBuilt(0, 9, 0));
        stays("ifBuilt, the same", RefusalBoundaries::lively, badValue, x -> x.ifBuilt(5, 5, 0));
        stays("ifBuilt, no what", RefusalBoundaries::lively, badValue, x -> x.ifBuilt(4, 5, 3));
        stays("bestBuilt, no what", RefusalBoundaries::lively, badValue, x -> x.bestBuilt(3));
        stays("worstLoss, no what", RefusalBoundaries::lively, badValue, x -> x.worstLoss(2));
        stays("needed, no square", RefusalBoundaries::lively, noSuch, x -> x.needed(9));
        stays("put, nothing", RefusalBoundaries::lively, badValue, x -> x.put(0));
        stays("put, a wrong code ahead", RefusalBoundaries::lively, badValue, x -> x.put(0x2030));
        stays("put, a wrong code at the end", RefusalBoundaries::lively, badValue, x -> x.put(0x307f));
        stays("put, bits above", RefusalBoundaries::lively, badValue, x -> x.put(0x300030));
        stays("put, a full pad", () -> withText("0-1:1;".repeat(13) + "2-"), tooMany, x -> x.put('3'));
        stays("put, more than there is room", () -> withText("0-1:1;".repeat(12) + "2-1"), tooMany, x -> x.put(Due.packed(":1;2-1:1")));
        stays("undo, nothing", PartingRoads::new, notPossible, PartingRoads::undo);
        stays("save, no slot", RefusalBoundaries::lively, badValue, x -> x.save(2));
        stays("save, slot -1", RefusalBoundaries::lively, badValue, x -> x.save(-1));
        stays("restore, no slot", RefusalBoundaries::lively, badValue, x -> x.restore(2));
        stays("restore, nothing saved", RefusalBoundaries::lively, notPossible, x -> x.restore(1));
        stays("restore, nothing saved in the first slot", RefusalBoundaries::crowded, notPossible, x -> x.restore(0));
    }

    private static void stays(String call, Supplier<PartingRoads> town, int due, ToIntFunction<PartingRoads> question) {
        PartingRoads asked = town.get();
        Due.is(call, question.applyAsInt(asked), due);
        List<Integer> got = everything(asked);
        List<Integer> want = everything(town.get());
        Due.is(call + ": answers afterwards", got.size(), want.size());
        for (int answer = 0; answer < Math.min(got.size(), want.size()); answer++) {
            Due.is(call + ": answer " + answer + " afterwards", got.get(answer), want.get(answer));
        }
    }

    /** What can be seen of the town, its text, its history and its slots, in at most some 400 calls; nothing is left of them then. */
    private static List<Integer> everything(PartingRoads x) {
        List<Integer> seen = new ArrayList<>();
        look(x, seen);
        seen.add(x.fault());
        seen.add(x.read());
        look(x, seen);
        for (int undone = 0; undone < 7; undone++) {
            seen.add(x.undo());
            look(x, seen);
        }
        for (int slot = 0; slot < 2; slot++) {
            seen.add(x.restore(slot));
            look(x, seen);
        }
        return seen;
    }

    private static void look(PartingRoads x, List<Integer> seen) {
        for (int what = 0; what < 10; what++) {
            seen.add(x.count(what));
        }
        for (int road = 0; road < Math.min(x.count(1), 6); road++) {
            for (int what = 0; what < 3; what++) {
                seen.add(x.road(road, what));
            }
        }
        seen.add(x.square(0, 3));
    }
}
