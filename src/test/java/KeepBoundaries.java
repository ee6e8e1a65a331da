/** The boundaries of promises 20 to 22: undo, and the slots. */
final class KeepBoundaries {
    private KeepBoundaries() {}

    static void all() {
        nothingToUndo();
        whatUndoGivesBack();
        sixStates();
        whatIsRecorded();
        withoutADifference();
        oldestIsDropped();
        slotsToSave();
        noSlotToSave();
        whatIsSaved();
        whatIsOverwritten();
        roadsThatAreSaved();
        slotsToRestore();
        noSlotToRestore();
        nothingSaved();
        whatIsKept();
        restoreIsAChange();
        roadsThatAreRestored();
    }

    private static void nothingToUndo() {
        Sentences.says(20, "NOT_POSSIBLE if there is none");
        PartingRoads x = new PartingRoads();
        Due.is("a new object", x.undo(), PartingRoads.NOT_POSSIBLE);
        x.put('0');
        x.wipe();
        x.save(0);
        x.squares(17);
        x.restore(1);
        x.bestBuilt(0);
        Due.is("no change was among these calls", x.undo(), PartingRoads.NOT_POSSIBLE);
        x.build(0, 1, 1);
        Due.is("one change", x.undo(), 0);
        Due.is("it is undone already", x.undo(), PartingRoads.NOT_POSSIBLE);
        Due.is("and again", x.undo(), PartingRoads.NOT_POSSIBLE);
        Due.is("none is counted", x.count(9), 0);
        x.build(0, 1, 1);
        Due.is("a change after that", x.undo(), 0);
    }

    private static void whatUndoGivesBack() {
        Sentences.says(20, "everything except the pad, the slots and the history is as it was before it");
        PartingRoads x = Towns.empty(16);
        x.build(15, 3, 7);
        x.build(3, 0, 8);
        x.build(0, 15, 9);
        x.lose(0);
        x.save(1);
        x.squares(16);
        Due.putAll(x, "0-1:1");
        Due.is("undo squares", x.undo(), 5);
        Due.is("undo lose", x.undo(), 4);
        Due.is("the lost road's lower square", x.road(0, 0), 3);
        Due.is("the lost road's higher square", x.road(0, 1), 15);
        Due.is("the lost road's length", x.road(0, 2), 7);
        Due.is("the next road has moved back", x.road(1, 2), 8);
        Due.is("the last road has moved back", x.road(2, 2), 9);
        Due.is("the roads are a ring", x.count(3), 0);
        Due.is("undo build", x.undo(), 3);
        Due.is("they are no ring", x.count(3), 2);
        Due.is("undo build", x.undo(), 2);
        Due.is("undo build", x.undo(), 1);
        Due.is("pieces", x.count(2), 16);
        Due.is("undo squares of the start", x.undo(), 0);
        Due.is("eight squares", x.count(0), 8);
        Due.is("eight pieces", x.count(2), 8);
        Due.is("the pad stays", x.count(8), 5);
        Due.is("the slot stays", x.restore(1), 2);
        Due.is("its squares", x.count(0), 16);
        x.wipe();
        Due.putAll(x, "0-1:1");
        Due.is("read", x.read(), 3);
        Due.is("undo read", x.undo(), 1);
        Due.is("the pad stays empty", x.count(8), 0);
        Due.is("undo restore", x.undo(), 0);
        Due.is("eight squares again", x.count(0), 8);
        Due.is("the other slot is as it was", x.restore(0), PartingRoads.NOT_POSSIBLE);
    }

    private static void sixStates() {
        Sentences.says(20, "A history of at most 6 states is kept");
        for (int changes = 1; changes <= 30; changes++) {
            PartingRoads x = Towns.manyRoads(changes, 1);
            int kept = Math.min(changes, 6);
            Due.is(changes + " changes", x.count(9), kept);
            for (int left = kept - 1; left >= 0; left--) {
                Due.is(changes + " changes, undo", x.undo(), left);
                Due.is(changes + " changes, roads with " + left + " left", x.count(1), changes - kept + left);
                Due.is(changes + " changes, counted with " + left + " left", x.count(9), left);
            }
            Due.is(changes + " changes, one undo too many", x.undo(), PartingRoads.NOT_POSSIBLE);
            Due.is(changes + " changes, roads at the end", x.count(1), changes - kept);
        }
    }

    private static void whatIsRecorded() {
        Sentences.says(20, "each method that is a change, and returns no error, records the state before it");
        PartingRoads x = new PartingRoads();
        Due.is("squares", x.squares(9), 8);
        Due.is("after squares", x.count(9), 1);
        Due.is("build", x.build(0, 1, 1), 8);
        Due.is("after build", x.count(9), 2);
        Due.is("lose", x.lose(0), 9);
        Due.is("after lose", x.count(9), 3);
        Due.putAll(x, "2-3:4");
        Due.is("after put", x.count(9), 3);
        Due.is("read", x.read(), 1);
        Due.is("after read", x.count(9), 4);
        Due.is("save", x.save(0), 1);
        Due.is("after save", x.count(9), 4);
        Due.is("restore", x.restore(0), 1);
        Due.is("after restore", x.count(9), 5);
        int[] errors = {x.squares(1), x.squares(2), x.build(0, 0, 1), x.build(9, 0, 1), x.build(0, 1, 0), x.lose(1), x.read(), x.restore(1), x.restore(2)};
        Due.is("errors", errors.length, 9);
        Due.is("after errors", x.count(9), 5);
        x.wipe();
        Due.is("after wipe", x.count(9), 5);
        Due.is("undo is not recorded itself", x.undo(), 4);
        Due.is("after undo", x.count(9), 4);
    }

    private static void withoutADifference() {
        Sentences.says(20, "also if nothing is different then");
        PartingRoads x = new PartingRoads();
        for (int same = 1; same <= 8; same++) {
            Due.is("squares(8) of eight", x.squares(8), 8);
            Due.is("it is recorded", x.count(9), Math.min(same, 6));
        }
        PartingRoads y = new PartingRoads();
        y.save(0);
        for (int same = 1; same <= 8; same++) {
            Due.is("restore what is there", y.restore(0), 0);
            Due.is("that is recorded", y.count(9), Math.min(same, 6));
        }
        for (int left = 5; left >= 0; left--) {
            Due.is("undo squares", x.undo(), left);
            Due.is("undo restore", y.undo(), left);
        }
    }

    private static void oldestIsDropped() {
        Sentences.says(20, "when one more is recorded, the oldest one is dropped");
        PartingRoads x = new PartingRoads();
        for (int many = 2; many <= 7; many++) {
            x.squares(many);
        }
        Due.is("six", x.count(9), 6);
        Due.is("an error drops nothing", x.squares(17), PartingRoads.BAD_VALUE);
        Due.is("save drops nothing", x.save(0), 0);
        Due.is("the seventh", x.squares(9), 7);
        Due.is("six still", x.count(9), 6);
        for (int many = 7; many >= 2; many--) {
            Due.is("undo", x.undo(), many - 2);
            Due.is("squares before", x.count(0), many);
        }
        Due.is("the state at first is dropped", x.undo(), PartingRoads.NOT_POSSIBLE);
        Due.is("two squares", x.count(0), 2);
        PartingRoads y = new PartingRoads();
        for (int many = 2; many <= 16; many++) {
            y.squares(many);
        }
        y.undo();
        y.undo();
        Due.is("four are left", y.count(9), 4);
        y.squares(3);
        y.squares(4);
        y.squares(5);
        int[] due = {4, 3, 14, 13, 12, 11};
        for (int undone = 0; undone < 6; undone++) {
            Due.is("undo what came after undo", y.undo(), 5 - undone);
            Due.is("squares before that", y.count(0), due[undone]);
        }
        Due.is("no more", y.undo(), PartingRoads.NOT_POSSIBLE);
    }

    private static void slotsToSave() {
        Sentences.says(21, "`slot`: 0 or 1");
        PartingRoads x = new PartingRoads();
        Due.is("slot 0", x.save(0), 0);
        x.build(0, 1, 5);
        Due.is("slot 1", x.save(1), 1);
        x.build(1, 2, 6);
        Due.is("what slot 0 has", x.restore(0), 0);
        Due.is("what slot 1 has", x.restore(1), 1);
        Due.is("its road", x.road(0, 2), 5);
    }

    private static void noSlotToSave() {
        Sentences.says(21, "BAD_VALUE if there is no such slot");
        PartingRoads x = Towns.row(3);
        for (int wrong : Towns.outside(0, 1)) {
            Due.is("save(" + wrong + ")", x.save(wrong), PartingRoads.BAD_VALUE);
        }
        Due.is("nothing in slot 0", x.restore(0), PartingRoads.NOT_POSSIBLE);
        Due.is("nothing in slot 1", x.restore(1), PartingRoads.NOT_POSSIBLE);
    }

    private static void whatIsSaved() {
        Sentences.says(21, "Saves everything except the pad, the history and the slots in a slot");
        PartingRoads x = Towns.ring(16);
        Due.putAll(x, "0-1:1");
        Due.is("save", x.save(0), 16);
        Due.is("it is no change", x.count(9), 6);
        for (int lost = 15; lost >= 0; lost--) {
            x.lose(lost / 2);
        }
        x.squares(2);
        x.wipe();
        x.put('7');
        Due.is("save in the other slot", x.save(1), 0);
        Due.is("restore", x.restore(0), 16);
        Due.is("squares", x.count(0), 16);
        for (int road = 0; road < 16; road++) {
            Due.is("the length of road " + road, x.road(road, 2), road + 1);
            Due.is("the lower square of road " + road, x.road(road, 0), road == 15 ? 0 : road);
            Due.is("the higher square of road " + road, x.road(road, 1), road == 15 ? 15 : road + 1);
        }
        Due.is("one piece", x.count(2), 1);
        Due.is("one district", x.count(5), 1);
        Due.is("the pad is not saved", x.count(8), 1);
        Due.is("the history is not saved: undo restore", x.undo(), 5);
        Due.is("two squares", x.count(0), 2);
        Due.is("undo squares", x.undo(), 4);
        Due.is("no roads", x.count(1), 0);
        Due.is("undo the last loss", x.undo(), 3);
        Due.is("one road", x.count(1), 1);
        Due.is("the slots are not saved", x.restore(1), 0);
    }

    private static void whatIsOverwritten() {
        Sentences.says(21, "overwrites what was saved there");
        PartingRoads x = Towns.row(16);
        x.save(0);
        x.save(1);
        while (x.count(1) > 0) {
            x.lose(0);
        }
        Due.is("save over more", x.save(0), 0);
        x.build(3, 2, 9);
        Due.is("restore fewer", x.restore(0), 0);
        Due.is("the other slot has all", x.restore(1), 15);
        Due.is("save over fewer", x.save(0), 15);
        x.lose(0);
        Due.is("restore more", x.restore(0), 15);
        Due.is("the last road", x.road(14, 2), 15);
    }

    private static void roadsThatAreSaved() {
        Sentences.says(21, "Returns how many roads there are");
        Due.is("none", new PartingRoads().save(1), 0);
        for (int roads = 1; roads <= 30; roads++) {
            Due.is("of " + roads, Towns.manyRoads(roads, 1).save(roads % 2), roads);
        }
    }

    private static void slotsToRestore() {
        Sentences.says(22, "`slot`: 0 or 1");
        PartingRoads x = Towns.empty(2);
        x.save(1);
        x.build(0, 1, 5);
        x.save(0);
        Due.is("slot 1", x.restore(1), 0);
        Due.is("slot 0", x.restore(0), 1);
    }

    private static void noSlotToRestore() {
        Sentences.says(22, "BAD_VALUE if there is no such slot");
        PartingRoads x = new PartingRoads();
        for (int wrong : Towns.outside(0, 1)) {
            Due.is("nothing saved, restore(" + wrong + ")", x.restore(wrong), PartingRoads.BAD_VALUE);
        }
        x.save(0);
        x.save(1);
        for (int wrong : Towns.outside(0, 1)) {
            Due.is("both saved, restore(" + wrong + ")", x.restore(wrong), PartingRoads.BAD_VALUE);
        }
        Due.is("no changes", x.count(9), 0);
    }

    private static void nothingSaved() {
        Sentences.says(22, "NOT_POSSIBLE if nothing was saved in it");
        for (int slot = 0; slot < 2; slot++) {
            PartingRoads x = new PartingRoads();
            Due.is("slot " + slot, x.restore(slot), PartingRoads.NOT_POSSIBLE);
            x.save(1 - slot);
            Due.is("slot " + slot + ", the other one has something", x.restore(slot), PartingRoads.NOT_POSSIBLE);
            Due.is("the other one of slot " + slot, x.restore(1 - slot), 0);
            Due.is("slot " + slot + ", still nothing", x.restore(slot), PartingRoads.NOT_POSSIBLE);
            x.save(slot);
            Due.is("slot " + slot + ", a town without roads is something", x.restore(slot), 0);
            x.undo();
            x.undo();
            Due.is("slot " + slot + ", undo does not empty it", x.restore(slot), 0);
        }
    }

    private static void whatIsKept() {
        Sentences.says(22, "Restores what was saved last in a slot, which keeps it.");
        PartingRoads x = Towns.read(16, "0-1:1;1-2:2;2-15:3");
        x.save(0);
        x.build(15, 0, 4);
        x.save(0);
        for (int again = 0; again < 4; again++) {
            x.lose(again);
            x.build(4, 5, 50 + again);
            x.lose(0);
            Due.is("restore, time " + again, x.restore(0), 4);
            for (int road = 0; road < 4; road++) {
                Due.is("time " + again + ", the length of road " + road, x.road(road, 2), road + 1);
            }
            Due.is("time " + again + ", none parts", x.count(3), 0);
            Due.is("time " + again + ", pieces", x.count(2), 13);
        }
        x.undo();
        Due.is("after undo", x.restore(0), 4);
        Due.is("restored twice", x.restore(0), 4);
    }

    private static void restoreIsAChange() {
        Sentences.says(22, "This is a change.");
        PartingRoads x = Towns.row(3);
        x.save(1);
        x.squares(9);
        x.build(8, 7, 70);
        Due.is("before", x.count(9), 5);
        Due.is("restore", x.restore(1), 2);
        Due.is("it is recorded", x.count(9), 6);
        Due.is("three squares", x.count(0), 3);
        Due.is("it can be undone", x.undo(), 5);
        Due.is("nine squares", x.count(0), 9);
        Due.is("the road that it took away", x.road(2, 2), 70);
        Due.is("its lower square", x.road(2, 0), 7);
        for (int again = 0; again < 7; again++) {
            x.restore(1);
        }
        Due.is("at most six", x.count(9), 6);
    }

    private static void roadsThatAreRestored() {
        Sentences.says(22, "Returns how many roads there are then");
        PartingRoads x = new PartingRoads();
        x.save(0);
        for (int road = 0; road < 30; road++) {
            x.build(6, 7, 99);
        }
        x.save(1);
        Due.is("none", x.restore(0), 0);
        Due.is("none, counted", x.count(1), 0);
        Due.is("the most", x.restore(1), 30);
        Due.is("the most, counted", x.count(1), 30);
        Due.is("no room for one more", x.build(0, 1, 1), PartingRoads.TOO_MANY);
        Due.is("none again", x.restore(0), 0);
        Due.is("room again", x.build(0, 1, 1), 7);
    }
}
