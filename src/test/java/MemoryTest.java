/** What must be there behind collections, and stores with all that 512 calls can make. */
public final class MemoryTest extends Scene {
    private static final Check CHECK = new Check("MemoryTest");

    public static void main(String[] args) {
        withEachStress(MemoryTest::all);
        CHECK.end();
    }

    private static void all() {
        keepsOperandAndResult();
        keepsGetterAndSetter();
        keepsWhatIsFound();
        hasRoomForPrototypes();
        hasRoomForIndices();
        hasRoomForValues();
        hasRoomForAllRoots();
        usesRoomAgain();
        newObjectsAreEmpty();
    }

    private static void keepsOperandAndResult() {
        CHECK.sentence("Terms", "An object that is one of both is there as long as it is.");
        PropertyStore x = fresh();
        x.object(0, -1, false);
        x.object(1, 0, true);
        x.operand(5, 1);
        x.put(0, -2);
        x.operand(3, 0);
        x.put(1, -3);
        x.get(0, -2);
        x.copy(0, -1);
        x.copy(1, -1);
        churn(x);
        x.hold(2);
        CHECK.due("own(2, -3) of the result", x.own(2, -3), WEC);
        x.prototype(2, 3);
        CHECK.due("own(3, -2) of the result's prototype", x.own(3, -2), WEC);
        x.operand(5, 2);
        x.own(3, -60);
        x.copy(2, -1);
        x.copy(3, -1);
        churn(x);
        x.object(4, -1, false);
        x.put(4, 0);
        x.get(4, 0);
        x.hold(5);
        CHECK.due("own(5, -3) of the operand", x.own(5, -3), WEC);
    }

    private static void keepsGetterAndSetter() {
        CHECK.sentence("Terms", "or an object that is there does (by its prototype, a value, a getter or setter)");
        PropertyStore x = fresh();
        x.object(4, -1, false);
        x.object(6, -1, false);
        x.object(7, -1, true);
        x.define(4, -9, GETTER | SETTER, 0, 6, 7);
        x.copy(6, -1);
        x.copy(7, -1);
        churn(x);
        CHECK.due("get(4, -9)", x.get(4, -9), 1);
        x.hold(6);
        CHECK.dueKeys(x, 6);
        CHECK.due("setter(4, -9, 7)", x.setter(4, -9, 7), true);
        CHECK.dueKeys(x, 7, LENGTH);
    }

    /** A getter and a setter that a call gave stay, though their property and its object go. */
    private static void keepsWhatIsFound() {
        CHECK.sentence("Terms", "An object that is one of both is there as long as it is.");
        for (int which = 0; which < 3; which++) {
            PropertyStore x = fresh();
            x.object(0, -1, true);
            x.object(1, -1, true);
            putNumber(x, 1, 8, 77);
            x.define(0, 5, GETTER | SETTER, 0, 1, 1);
            x.operand(0, 0);
            int answer = which == 0 ? x.get(0, 5) : which == 1 ? x.put(0, 5) : x.own(0, 5);
            CHECK.due("get, put or own of an accessor", answer, which == 2 ? ACCESSOR : 1);
            x.copy(0, -1);
            x.copy(1, -1);
            churn(x);
            x.hold(1);
            CHECK.dueNumber(x, 1, 8, 77);
            CHECK.dueLength(x, 1, 9, W);
        }
    }

    private static void hasRoomForPrototypes() {
        CHECK.sentence("Terms", "There is always room.");
        PropertyStore x = fresh();
        x.object(0, -1, true);
        x.operand(3, 0);
        x.put(0, -2);
        for (int made = 4; made < 510; made++) {
            x.object(0, 0, true);
        }
        CHECK.due("get through 500 prototypes", x.get(0, -2), 0);
        CHECK.due("kind()", x.kind(), 3);
    }

    private static void hasRoomForIndices() {
        CHECK.sentence("Terms", "There is always room.");
        PropertyStore x = fresh();
        x.object(0, -1, true);
        for (int made = 0; made < 500; made++) {
            x.put(0, LAST_INDEX - made * 1000L);
        }
        CHECK.due("keys(0)", x.keys(0), 501);
        CHECK.due("key(0, 499)", x.key(0, 499), LAST_INDEX);
        CHECK.due("key(0, 0)", x.key(0, 0), LAST_INDEX - 499000L);
        CHECK.due("put(0, -1)", putNumber(x, 0, LENGTH, LAST_INDEX - 399000L), 0);
        CHECK.due("keys(0)", x.keys(0), 101);
    }

    /** A list: each object's value is the one that was made ahead of it. */
    private static void hasRoomForValues() {
        CHECK.sentence("Terms", "There is always room.");
        PropertyStore x = fresh();
        x.object(0, -1, false);
        for (int made = 0; made < 80; made++) {
            x.operand(5, 0);
            x.object(0, -1, made % 2 == 0);
            x.put(0, made % 2 == 0 ? 0 : -7);
        }
        int found = 0;
        for (int n = 79; n >= 0; n--) {
            x.get(0, n % 2 == 0 ? 0 : -7);
            if (x.kind() == 5) {
                x.hold(0);
                found++;
            }
        }
        CHECK.due("the list's length", found, 80);
        CHECK.dueKeys(x, 0);
    }

    private static void hasRoomForAllRoots() {
        CHECK.sentence("Terms", "There is always room.");
        PropertyStore x = fresh();
        for (int r = 0; r < Check.ROOTS; r++) {
            x.object(r, -1, true);
        }
        for (int n = 0; n < 9; n++) {
            for (int r = 0; r < Check.ROOTS; r++) {
                CHECK.due("put(" + r + ", " + n * r + ")", x.put(r, n * r), 0);
            }
        }
        for (int r = 1; r < Check.ROOTS; r++) {
            CHECK.dueKeys(x, r, 0, r, 2 * r, 3 * r, 4 * r, 5 * r, 6 * r, 7 * r, 8 * r, LENGTH);
        }
    }

    private static void usesRoomAgain() {
        CHECK.sentence("Terms", "There is always room.");
        PropertyStore x = fresh();
        x.object(0, -1, true);
        putNumber(x, 0, 2, 77);
        for (int n = 0; n < 160; n++) {
            x.object(1, 0, true);
            x.put(1, n);
            x.object(2, 1, false);
        }
        CHECK.dueNumber(x, 2, 2, 77);
        CHECK.dueNumber(x, 2, LENGTH, 160);
        CHECK.dueKeys(x, 0, 2, LENGTH);
        CHECK.dueKeys(x, 1, 159, LENGTH);
        CHECK.dueKeys(x, 2);
    }

    /** Nothing is left in an object or a property of what had its room ahead of it. */
    private static void newObjectsAreEmpty() {
        CHECK.sentence("Promise 2", "Root r holds a new object (or array) with what root p (r itself, too) held");
        PropertyStore x = fresh();
        for (int n = 0; n < 12; n++) {
            x.object(0, -1, true);
            x.object(1, 0, true);
            x.operand(5, 1);
            x.put(1, 7);
            x.define(1, -2, GETTER | SETTER | E | C, E | C, 0, 1);
            x.lock(1, 2);
            x.object(1, -1, false);
            x.own(1, 0);
            x.operand(0, 0);
            x.object(0, -1, true);
            x.object(2, -1, false);
            CHECK.dueKeys(x, 0, LENGTH);
            CHECK.dueLength(x, 0, 0, W);
            CHECK.dueKeys(x, 2);
            CHECK.due("locked(2, 0)", x.locked(2, 0), false);
            x.prototype(2, 3);
            CHECK.due("no prototype", x.same(3, EMPTY), true);
            CHECK.due("define(2, -2) with nothing told", x.define(2, -2, 0, 0, -1, -1), 0);
            CHECK.due("own(2, -2)", x.own(2, -2), 0);
            CHECK.due("kind()", x.kind(), 0);
            CHECK.due("define(2, -3) with no getter", x.define(2, -3, GETTER, 0, -1, -1), 0);
            CHECK.due("setter(2, -3, 3)", x.setter(2, -3, 3), false);
            x.copy(2, -1);
        }
    }
}
