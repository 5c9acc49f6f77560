/** One method a promise of the document: ordinary inputs, the edges that it names, and wrong inputs. */
public final class PromiseTest extends DeskTest {
    private static final int[] NO_PLACES = {-1, -2, 28, 31, 32, 1000, Integer.MIN_VALUE, Integer.MAX_VALUE};

    private static void due(int promise, String what, Object got, Object want) {
        due("promise " + promise, what, got, want);
    }

    private static void program(int promise, String what, RenameDesk desk, String text) {
        due(promise, what + ", the program", program(desk), text);
    }

    private static void newObject() {
        RenameDesk desk = new RenameDesk();
        due(1, "length()", desk.length(), 0);
        due(1, "token(0)", desk.token(0), NONE);
        due(1, "free()", desk.free(), 0);
        due(1, "unused()", desk.unused(), 0);
        due(1, "bound(0)", desk.bound(0), NONE);
        due(1, "uses(0)", desk.uses(0), 0);
        due(1, "names(0)", desk.names(0), 0);
        due(1, "depth(0)", desk.depth(0), NONE);
        due(1, "visible(0)", desk.visible(0), 0);
        due(1, "canMoveOut(0)", desk.canMoveOut(0), false);
        due(1, "moveOut(0)", desk.moveOut(0), NONE);
        due(1, "rename(0, 0)", desk.rename(0, 0), NONE);
        due(1, "swap(0)", desk.swap(0), NONE);
        due(1, "drop()", desk.drop(), NONE);
        RenameDesk other = new RenameDesk();
        other.add(2, 1);
        due(1, "length() beside another object", desk.length(), 0);
    }

    private static void add() {
        RenameDesk desk = new RenameDesk();
        int[] noKinds = {-1, 4, 5, 6, 7, Integer.MIN_VALUE, Integer.MAX_VALUE};
        for (int kind : noKinds) {
            due(2, "add(" + kind + ", 0)", desk.add(kind, 0), NONE);
        }
        int[] noNames = {-1, 8, 9, Integer.MIN_VALUE, Integer.MAX_VALUE};
        for (int n : noNames) {
            due(2, "add(2, " + n + ")", desk.add(2, n), NONE);
            due(2, "add(3, " + n + ")", desk.add(3, n), NONE);
        }
        due(2, "add(1, 0) with no block", desk.add(1, 0), NONE);
        program(2, "after wrong adds", desk, "");
        int place = 0;
        for (int n = 0; n < 8; n++) {
            due(2, "add(2, " + n + ")", desk.add(2, n), place++);
            due(2, "add(3, " + n + ")", desk.add(3, n), place++);
        }
        for (int n : noNames) {
            due(2, "add(0, " + n + ")", desk.add(0, n), place++);
        }
        for (int n : noNames) {
            due(2, "add(1, " + n + ")", desk.add(1, n), place++);
        }
        due(2, "add(1, 0) with every block closed", desk.add(1, 0), NONE);
        program(2, "after adds", desk,
                "d0 u0 d1 u1 d2 u2 d3 u3 d4 u4 d5 u5 d6 u6 d7 u7 ( ( ( ( ( ) ) ) ) )");
        due(2, "add(2, 0) as 27th", desk.add(2, 0), 26);
        due(2, "add(0, 0) as 28th", desk.add(0, 0), 27);
        for (int kind = 0; kind < 4; kind++) {
            due(2, "add(" + kind + ", 1) as 29th", desk.add(kind, 1), FULL);
        }
        due(2, "length() when full", desk.length(), 28);
        due(2, "token(27) when full", desk.token(27), 0);
    }

    private static void drop() {
        RenameDesk desk = desk("d1 ( u1 )");
        due(3, "drop()", desk.drop(), 3);
        due(3, "add(1, 0) after its CLOSE was dropped", desk.add(1, 0), 3);
        due(3, "drop()", desk.drop(), 3);
        due(3, "drop()", desk.drop(), 2);
        due(3, "drop()", desk.drop(), 1);
        due(3, "add(1, 0) after its OPEN was dropped", desk.add(1, 0), NONE);
        program(3, "after drops", desk, "d1");
        due(3, "drop()", desk.drop(), 0);
        due(3, "drop() of nothing", desk.drop(), NONE);
        due(3, "drop() of nothing again", desk.drop(), NONE);
        due(3, "add(3, 1)", desk.add(3, 1), 0);
        due(3, "bound(0)", desk.bound(0), NONE);
        RenameDesk full = desk(repeated("d2", 28));
        due(3, "drop() when full", full.drop(), 27);
        due(3, "add(3, 2) after it", full.add(3, 2), 27);
        due(3, "bound(27)", full.bound(27), 26);
    }

    private static void length() {
        RenameDesk desk = new RenameDesk();
        for (int n = 0; n < 28; n++) {
            due(4, "length()", desk.length(), n);
            desk.add(0, 0);
        }
        due(4, "length() when full", desk.length(), 28);
        desk.add(0, 0);
        due(4, "length() after FULL", desk.length(), 28);
        desk.drop();
        due(4, "length() after drop()", desk.length(), 27);
    }

    private static void token() {
        RenameDesk desk = desk("( d0 d7 u0 u7 )");
        int[] tokens = {0, 2, 30, 3, 31, 1};
        for (int k = 0; k < tokens.length; k++) {
            due(5, "token(" + k + ")", desk.token(k), tokens[k]);
        }
        due(5, "token(6)", desk.token(6), NONE);
        for (int k : NO_PLACES) {
            due(5, "token(" + k + ")", desk.token(k), NONE);
        }
        desk.drop();
        due(5, "token(5) after drop()", desk.token(5), NONE);
    }

    private static void bound() {
        RenameDesk desk = desk("u0 d0 u0 ( u0 d0 u0 d0 u0 ( d1 u0 ) u1 ) u0 ( ( u0");
        due(6, "bound(0), before the declaration", desk.bound(0), NONE);
        due(6, "bound(1), of a declaration", desk.bound(1), NONE);
        due(6, "bound(2)", desk.bound(2), 1);
        due(6, "bound(3), of an OPEN", desk.bound(3), NONE);
        due(6, "bound(4), before the inner declaration", desk.bound(4), 1);
        due(6, "bound(6)", desk.bound(6), 5);
        due(6, "bound(8), the last of two", desk.bound(8), 7);
        due(6, "bound(11), from a block inside", desk.bound(11), 7);
        due(6, "bound(12), of a CLOSE", desk.bound(12), NONE);
        due(6, "bound(13), after the block of its declaration", desk.bound(13), NONE);
        due(6, "bound(15), after the inner block", desk.bound(15), 1);
        due(6, "bound(18), in blocks that stay open", desk.bound(18), 1);
        due(6, "bound(19)", desk.bound(19), NONE);
        for (int k : NO_PLACES) {
            due(6, "bound(" + k + ")", desk.bound(k), NONE);
        }
        // An inner block wins over a later place in an outer one, and a block closed between counts for nothing.
        RenameDesk deep = desk("d3 ( d3 ( d3 ) u3 ( u3 ) ) u3");
        due(6, "bound(6)", deep.bound(6), 2);
        due(6, "bound(8)", deep.bound(8), 2);
        due(6, "bound(11)", deep.bound(11), 0);
    }

    private static void uses() {
        RenameDesk desk = desk("u0 d0 u0 ( u0 d0 u0 ) u0 d0 u0 d1");
        due(7, "uses(1)", desk.uses(1), bits(2, 4, 8));
        due(7, "uses(5)", desk.uses(5), bits(6));
        due(7, "uses(9)", desk.uses(9), bits(10));
        due(7, "uses(11), unused", desk.uses(11), 0);
        due(7, "uses(0), of a use", desk.uses(0), 0);
        due(7, "uses(3), of an OPEN", desk.uses(3), 0);
        due(7, "uses(7), of a CLOSE", desk.uses(7), 0);
        due(7, "uses(12)", desk.uses(12), 0);
        for (int k : NO_PLACES) {
            due(7, "uses(" + k + ")", desk.uses(k), 0);
        }
        RenameDesk full = desk("d5 " + repeated("u5", 27));
        due(7, "uses(0) of 27 uses", full.uses(0), (1 << 28) - 2);
    }

    private static void free() {
        due(8, "free()", desk("u0 d0 u0 ( d1 u1 ) u1 ( u1 d1").free(), bits(0, 7, 9));
        due(8, "free() of bound uses", desk("d0 u0 ( u0").free(), 0);
        due(8, "free() without uses", desk("d0 ( )").free(), 0);
        due(8, "free() of 28 uses", desk(repeated("u6", 28)).free(), (1 << 28) - 1);
    }

    private static void unused() {
        due(9, "unused()", desk("d0 d0 u0 ( d0 ) d1 ( u1 d2 ( u2 ) ) d7").unused(), bits(0, 4, 14));
        due(9, "unused() of used ones", desk("d0 ( u0 )").unused(), 0);
        due(9, "unused() without declarations", desk("u0 ( )").unused(), 0);
        due(9, "unused() of 28", desk(repeated("d3", 28)).unused(), (1 << 28) - 1);
    }

    private static void names() {
        RenameDesk desk = desk("d0 d1 ( u0 d2 u1 u2 ) u3");
        due(10, "names(0), d1 would catch u0, u3 would be taken", desk.names(0), 255 & ~bits(1, 3));
        due(10, "names(1), u0 and u3 would be taken, d2 would catch u1", desk.names(1), 255 & ~bits(0, 2, 3));
        due(10, "names(4), would take u1", desk.names(4), 255 & ~bits(1));
        due(10, "names(2), of an OPEN", desk.names(2), 0);
        due(10, "names(3), of a use", desk.names(3), 0);
        due(10, "names(9)", desk.names(9), 0);
        for (int k : NO_PLACES) {
            due(10, "names(" + k + ")", desk.names(k), 0);
        }
        program(10, "after names", desk, "d0 d1 ( u0 d2 u1 u2 ) u3");
        // Its own use would be caught by another declaration in an inner block, or by a later one beside it.
        due(10, "names(0), caught inside", desk("d0 ( d1 u0 )").names(0), 255 & ~bits(1));
        due(10, "names(0), caught beside", desk("d0 d1 u0").names(0), 255 & ~bits(1));
        due(10, "names(0), not caught by a closed block", desk("d0 ( d1 ) u0").names(0), 255);
        due(10, "names(0), not caught by a later one", desk("d0 u0 d1").names(0), 255);
        due(10, "names(3), unused", desk("d0 ( u1 d2").names(3), 255);
        due(10, "names(0), hidden for the use of the other", desk("d0 d1 u1").names(0), 255);
        // Away from its own name nothing else may be uncovered: the uses move along.
        due(10, "names(1)", desk("d0 d0 u0").names(1), 255);
    }

    private static void rename() {
        RenameDesk desk = desk("d0 u0 ( u0 d0 u0 ) u0 u5");
        due(11, "rename(0, 0), its own name", desk.rename(0, 0), 0);
        program(11, "after rename(0, 0)", desk, "d0 u0 ( u0 d0 u0 ) u0 u5");
        due(11, "rename(0, 5), takes a free use", desk.rename(0, 5), REFUSED);
        program(11, "after rename(0, 5)", desk, "d0 u0 ( u0 d0 u0 ) u0 u5");
        due(11, "rename(0, 7)", desk.rename(0, 7), 4);
        program(11, "after rename(0, 7)", desk, "d7 u7 ( u7 d0 u0 ) u7 u5");
        due(11, "rename(4, 7), hides nothing that is used", desk.rename(4, 7), 2);
        program(11, "after rename(4, 7)", desk, "d7 u7 ( u7 d7 u7 ) u7 u5");
        int[] noNames = {-1, 8, Integer.MIN_VALUE, Integer.MAX_VALUE};
        for (int m : noNames) {
            due(11, "rename(0, " + m + ")", desk.rename(0, m), NONE);
        }
        int[] noDeclarations = {1, 2, 6, 9};
        for (int k : noDeclarations) {
            due(11, "rename(" + k + ", 1)", desk.rename(k, 1), NONE);
        }
        for (int k : NO_PLACES) {
            due(11, "rename(" + k + ", 1)", desk.rename(k, 1), NONE);
        }
        program(11, "after wrong renames", desk, "d7 u7 ( u7 d7 u7 ) u7 u5");
        RenameDesk unused = desk("d3");
        due(11, "rename(0, 4), unused", unused.rename(0, 4), 1);
        program(11, "after rename(0, 4)", unused, "d4");
        RenameDesk caught = desk("d0 ( d1 u0 )");
        due(11, "rename(0, 1), its use is caught", caught.rename(0, 1), REFUSED);
        program(11, "after the refused one", caught, "d0 ( d1 u0 )");
        RenameDesk full = desk("d0 " + repeated("u0", 27));
        due(11, "rename(0, 1) of all", full.rename(0, 1), 28);
        program(11, "after it", full, "d1 " + repeated("u1", 27));
    }

    private static void swapGoes(String before, int k, String after) {
        RenameDesk desk = desk(before);
        due(12, "swap(" + k + ") in \"" + before + "\"", desk.swap(k), k);
        program(12, "after swap(" + k + ") in \"" + before + "\"", desk, after);
    }

    private static void swapFails(String before, int k, int answer) {
        RenameDesk desk = desk(before);
        due(12, "swap(" + k + ") in \"" + before + "\"", desk.swap(k), answer);
        program(12, "after swap(" + k + ") in \"" + before + "\"", desk, before);
    }

    private static void swap() {
        swapGoes("d0 d1 u0 u1", 0, "d1 d0 u0 u1");
        swapGoes("d0 u1 u0", 0, "u1 d0 u0");
        swapGoes("u1 d0", 0, "d0 u1");
        swapGoes("d0 u0 u1", 1, "d0 u1 u0");
        swapGoes("d0 u0 u0", 1, "d0 u0 u0");
        swapGoes("d0 d0", 0, "d0 d0");
        swapGoes("( d2 d3 ) u2", 1, "( d3 d2 ) u2");
        swapGoes(repeated("d1", 27) + " d2", 26, repeated("d1", 26) + " d2 d1");
        swapFails("d0 u0", 0, REFUSED);
        swapFails("u0 d0", 0, REFUSED);
        swapFails("d0 d0 u0", 0, REFUSED);
        swapFails("d0 u0 d0 u0", 1, REFUSED);
        swapFails("d0 ( u0 d0 )", 2, REFUSED);
        swapFails("d0 ( d0 u0 )", 2, REFUSED);
        swapFails("d0 ( d1 )", 0, NONE);
        swapFails("d0 ( d1 )", 1, NONE);
        swapFails("d0 ( d1 )", 2, NONE);
        swapFails("d0 ( d1 )", 3, NONE);
        swapFails("( ( ) )", 1, NONE);
        swapFails("d0 d1", 1, NONE);
        swapFails("d0 d1", 2, NONE);
        swapFails("", 0, NONE);
        swapFails(repeated("d1", 28), 27, NONE);
        for (int k : NO_PLACES) {
            swapFails("d0 d1 u0", k, NONE);
        }
        RenameDesk dropped = desk("d0 d1");
        dropped.drop();
        due(12, "swap(0) with a dropped token", dropped.swap(0), NONE);
    }

    private static void moveGoes(String before, int k, int place, String after) {
        RenameDesk desk = desk(before);
        String call = "(" + k + ") in \"" + before + "\"";
        due(14, "canMoveOut" + call, desk.canMoveOut(k), true);
        program(14, "after canMoveOut" + call, desk, before);
        due(13, "moveOut" + call, desk.moveOut(k), place);
        program(13, "after moveOut" + call, desk, after);
    }

    private static void moveFails(String before, int k, int answer) {
        RenameDesk desk = desk(before);
        String call = "(" + k + ") in \"" + before + "\"";
        due(14, "canMoveOut" + call, desk.canMoveOut(k), false);
        due(13, "moveOut" + call, desk.moveOut(k), answer);
        program(13, "after moveOut" + call, desk, before);
    }

    private static void moveOutAndCanMoveOut() {
        moveGoes("( d0 )", 1, 0, "d0 ( )");
        moveGoes("( d0", 1, 0, "d0 (");
        moveGoes("u1 ( u2 d0 u0 )", 3, 1, "u1 d0 ( u2 u0 )");
        moveGoes("( d3 ( u1 d0 ) )", 4, 2, "( d3 d0 ( u1 ) )");
        moveGoes("( ( u1 ) d0 u0 )", 4, 0, "d0 ( ( u1 ) u0 )");
        moveGoes("( d0 ) ( d0 u0 )", 4, 3, "( d0 ) d0 ( u0 )");
        moveGoes("d0 ( d0 u0 )", 2, 1, "d0 d0 ( u0 )");
        moveGoes(repeated("(", 26) + " d7 u7", 26, 25, repeated("(", 25) + " d7 ( u7");
        // It would take a use before it, or behind the block, from another declaration or from the free ones.
        moveFails("( u0 d0 )", 2, REFUSED);
        moveFails("( ( u0 ) d0 )", 4, REFUSED);
        moveFails("( d0 ) u0", 1, REFUSED);
        moveFails("d0 ( u0 d0 u0 )", 3, REFUSED);
        moveFails("d0 ( d0 u0 ) u0", 2, REFUSED);
        moveFails("d0 ( d0 ) ( u0 )", 2, REFUSED);
        // It would lose its use to another declaration that it hid in its block.
        moveFails("( d0 d0 u0 )", 2, REFUSED);
        moveFails("d0", 0, NONE);
        moveFails("( d1 ) d0", 3, NONE);
        moveFails("( u0 )", 0, NONE);
        moveFails("( u0 )", 1, NONE);
        moveFails("( u0 )", 2, NONE);
        moveFails("( d0 )", 3, NONE);
        moveFails("", 0, NONE);
        for (int k : NO_PLACES) {
            moveFails("( d0 )", k, NONE);
        }
        RenameDesk twice = desk("( ( d4 u4 ) )");
        due(13, "moveOut(2)", twice.moveOut(2), 1);
        due(13, "moveOut(1)", twice.moveOut(1), 0);
        due(13, "moveOut(0), in the outermost block", twice.moveOut(0), NONE);
        program(13, "after moving out twice", twice, "d4 ( ( u4 ) )");
        due(13, "bound(3)", twice.bound(3), 0);
        RenameDesk dropped = desk("( d0");
        dropped.drop();
        due(14, "canMoveOut(1) of a dropped token", dropped.canMoveOut(1), false);
    }

    private static void depth() {
        RenameDesk desk = desk("d0 ( u0 ( ) d1 ( u1 ) ) u0 (");
        int[] depths = {0, 0, 1, 1, 2, 1, 1, 2, 2, 1, 0, 0};
        for (int k = 0; k < depths.length; k++) {
            due(15, "depth(" + k + ")", desk.depth(k), depths[k]);
        }
        due(15, "depth(12), no place yet", desk.depth(12), NONE);
        for (int k : NO_PLACES) {
            due(15, "depth(" + k + ")", desk.depth(k), NONE);
        }
        due(15, "depth(27) of 28 OPENs", desk(repeated("(", 28)).depth(27), 27);
    }

    private static void visible() {
        RenameDesk desk = desk("d0 ( d1 ( d7 ) u2 ) d0 d3 u5");
        int[][] names = {{}, {0}, {0}, {0, 1}, {0, 1}, {0, 1, 7}, {0, 1}, {0, 1}, {0}, {0}, {0, 3}};
        for (int k = 0; k < names.length; k++) {
            due(16, "visible(" + k + ")", desk.visible(k), bits(names[k]));
        }
        due(16, "visible(11), no place yet", desk.visible(11), 0);
        for (int k : NO_PLACES) {
            due(16, "visible(" + k + ")", desk.visible(k), 0);
        }
        due(16, "visible(8) of all", desk("d0 d1 d2 d3 d4 d5 d6 d7 u0").visible(8), 255);
    }

    private static void orderAndLimits() {
        String full = repeated("d0", 28);
        RenameDesk desk = desk(full);
        due(17, "add(1, 0) when full and no block is open", desk.add(1, 0), NONE);
        due(17, "add(4, 0) when full", desk.add(4, 0), NONE);
        due(17, "add(-1, 0) when full", desk.add(-1, 0), NONE);
        due(17, "add(2, 8) when full", desk.add(2, 8), NONE);
        due(17, "add(3, -1) when full", desk.add(3, -1), NONE);
        due(17, "add(3, 0) when full", desk.add(3, 0), FULL);
        program(17, "after refused adds", desk, full);
        RenameDesk open = desk("( " + repeated("d0", 27));
        due(17, "add(1, 0) when full and a block is open", open.add(1, 0), FULL);
        program(17, "after FULL", open, "( " + repeated("d0", 27));
        // A rename that is not legal and has no name either, or no declaration, is NONE.
        RenameDesk both = desk("d0 u0 ( u1 d1 )");
        due(17, "rename(0, 1)", both.rename(0, 1), REFUSED);
        due(17, "rename(0, 8)", both.rename(0, 8), NONE);
        due(17, "rename(1, 1)", both.rename(1, 1), NONE);
        due(17, "swap(0)", both.swap(0), REFUSED);
        due(17, "swap(1)", both.swap(1), NONE);
        due(17, "moveOut(4)", both.moveOut(4), REFUSED);
        due(17, "moveOut(0)", both.moveOut(0), NONE);
        program(17, "after refused changes", both, "d0 u0 ( u1 d1 )");
        due(17, "free() after refused changes", both.free(), bits(3));
        due(17, "add(1, 0) after refused changes", both.add(1, 0), NONE);
    }

    public static void main(String[] args) {
        newObject();
        add();
        drop();
        length();
        token();
        bound();
        uses();
        free();
        unused();
        names();
        rename();
        swap();
        moveOutAndCanMoveOut();
        depth();
        visible();
        orderAndLimits();
        end();
    }
}
