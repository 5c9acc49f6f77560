import java.util.ArrayList;
import java.util.Arrays;
import java.util.List;

/** One method a sentence of the document that names a boundary case; a failure is told with that sentence. */
public final class BoundaryTest extends DeskTest {
    private static final int LEAST = Integer.MIN_VALUE;
    private static final int GREATEST = Integer.MAX_VALUE;
    private static final int ALL_NAMES = 255;

    /** Numbers around each end of 0 .. 7, of a byte, of a shift and of int: those with the low bits of a name too. */
    private static final int[] NO_NAMES = {-1, -2, -7, -8, LEAST, LEAST + 1, 8, 9, 15, 16, 32, 33, 256, 65537,
        1 << 30, GREATEST - 1, GREATEST};
    private static final int[] NO_KINDS = {-1, -2, -3, -4, LEAST, LEAST + 2, 4, 5, 6, 7, 8, 32, 34, 256, 258, 65538,
        1 << 30, GREATEST - 1, GREATEST};
    private static final int[] NO_PLACES = {-1, -2, -3, -27, -28, -31, -32, -256, LEAST, LEAST + 1, LEAST + 2, 28, 29,
        31, 32, 33, 34, 64, 65, 257, 65537, 1 << 30, (1 << 30) + 1, GREATEST - 1, GREATEST};

    private static final String FULL_OF_USES = "u3 ( d0 " + repeated("u0", 25);
    private static final String FULL_OF_DECLARATIONS = repeated("d0", 28);
    private static final String FULL_AND_OPEN = "( " + repeated("d0", 27);

    private static String sentence = "";

    private static void sentence(String words) {
        sentence = words;
    }

    private static void answers(String text, String call, int want) {
        due(sentence, call + " in \"" + text + "\"", ask(desk(text), call), want);
    }

    private static void changes(String text, String call, int want, String after) {
        RenameDesk desk = desk(text);
        due(sentence, call + " in \"" + text + "\"", ask(desk, call), want);
        stands("after " + call + " in \"" + text + "\"", desk, after);
    }

    private static void refuses(String text, String call, int want) {
        changes(text, call, want, text);
    }

    /** The object must hold just the given program: every call that follows answers as on a new object with it. */
    private static void stands(String when, RenameDesk desk, String text) {
        due(sentence, when + ", the program", program(desk), text);
        RenameDesk fresh = desk(text);
        for (String call : laterCalls(words(text).length)) {
            due(sentence, when + ", " + call, ask(desk, call), ask(fresh, call));
        }
    }

    private static List<String> laterCalls(int length) {
        List<String> calls = new ArrayList<>(List.of("length()", "free()", "unused()"));
        for (int k = 0; k <= length; k++) {
            for (String name : new String[] {"token", "bound", "uses", "names", "canMoveOut", "depth", "visible"}) {
                calls.add(name + "(" + k + ")");
            }
        }
        // An OPEN or CLOSE more or less, kept beside the tokens, shows when the next CLOSE comes.
        calls.addAll(List.of("add(1, 0)", "length()", "add(3, 0)", "length()", "drop()", "drop()", "drop()"));
        return calls;
    }

    /**
     * The call, with %d for the place, must give the answer and change nothing at every number that is no place.
     * The programs are one word and another one again and again, chosen so that the call answers otherwise at
     * most of their places: a wrong number taken for any of them shows.
     */
    private static void atNoPlace(String form, int want, String first, String more) {
        refuses("", String.format(form, 0), want);
        refuses("", String.format(form, -1), want);
        for (int length : new int[] {1, 5, MOST_TOKENS}) {
            String text = beginning(first, more, length);
            refuses(text, String.format(form, length), want);
            refuses(text, String.format(form, length + 1), want);
            refuses(text, String.format(form, -length), want);
            for (int k : NO_PLACES) {
                refuses(text, String.format(form, k), want);
            }
        }
        atDroppedPlaces(form, want, first, more);
    }

    private static String beginning(String first, String more, int length) {
        String[] words = words(first + " " + repeated(more, length));
        return String.join(" ", Arrays.copyOf(words, length));
    }

    private static void atDroppedPlaces(String form, int want, String first, String more) {
        RenameDesk desk = desk(beginning(first, more, MOST_TOKENS));
        for (int left = MOST_TOKENS - 1; left >= 5; left--) {
            desk.drop();
            String call = String.format(form, left);
            due(sentence, call + " when " + left + " tokens are left", ask(desk, call), want);
        }
        for (int k = 5; k < MOST_TOKENS; k++) {
            String call = String.format(form, k);
            due(sentence, call + " when 5 tokens are left", ask(desk, call), want);
        }
        stands("when 5 tokens are left", desk, beginning(first, more, 5));
    }

    /** A token that has been taken away is not there any more. */
    private static void afterDrop(String text, String call, int want) {
        RenameDesk desk = desk(text);
        desk.drop();
        due(sentence, call + " in \"" + text + "\" after drop()", ask(desk, call), want);
    }

    // Terms

    private static void blocksThatAreNotClosed() {
        sentence("Terms: blocks that are not closed reach to the end");
        answers("( ( u0", "depth(2)", 2);
        answers("( ( ) u0", "depth(3)", 1);
        answers(repeated("(", 27) + " u0", "depth(27)", 27);
        answers("( d0 ( u0", "bound(3)", 1);
        answers("( d0 ( u0", "uses(1)", bits(3));
        answers("d0 ( d0 ( u0 u1", "unused()", bits(0));
        answers("( d0 ) ( d1 u0 u1", "free()", bits(5));
        answers("( d0 ) ( d1 u0 u1", "bound(6)", 4);
        answers("( d0 ) ( d1 u0 u1", "visible(6)", bits(1));
        answers("d0 ( d1 u0", "names(0)", ALL_NAMES & ~bits(1));
        changes("d0 ( d0 ( u0", "rename(2, 1)", 2, "d0 ( d1 ( u1");
        changes("( d0 u1", "swap(1)", 1, "( u1 d0");
        refuses("d0 ( d0 u0", "swap(2)", REFUSED);
        answers("( d0", "canMoveOut(1)", 1);
        changes("( d0", "moveOut(1)", 0, "d0 (");
        changes("( ( d0 u0", "moveOut(2)", 1, "( d0 ( u0");
        refuses("( u0 d0", "moveOut(2)", REFUSED);
        changes("( ( )", "add(1, 0)", 3, "( ( ) )");
    }

    private static void inNoBlock() {
        sentence("Terms: what is in no block is in the outermost block, which is the whole program");
        answers("d0 ( ) u0", "bound(3)", 0);
        answers("d0 ( ) u0", "depth(3)", 0);
        answers("d0 ( d1 ) d2 u0", "visible(5)", bits(0, 2));
        refuses("( ) d0", "moveOut(2)", NONE);
    }

    private static void declarationBeforeTheUse() {
        sentence("Terms: a declaration of n that lies directly in a block around u, at a place before u");
        answers("u0 d0", "bound(0)", NONE);
        answers("d0 u0", "bound(1)", 0);
        answers("d0 ( u0 d0 )", "bound(2)", 0);
        answers("( ( d0 ) u0 )", "bound(4)", NONE);
        answers("d0 ( d0 ) u0", "bound(4)", 0);
        answers("d0 ( d0 ( d0 ) ( ) u0 )", "bound(8)", 2);
        answers("d0 " + repeated("(", 26) + " u0", "bound(27)", 0);
    }

    private static void lastOfTheInnermostBlock() {
        sentence("Terms: the innermost such block, and the last such declaration in it");
        answers("d0 d0 u0", "bound(2)", 1);
        answers("d0 ( d0 u0 )", "bound(3)", 2);
        answers("d0 ( d0 d0 ( u0 ) )", "bound(5)", 3);
        answers("d0 d1 u0", "bound(2)", 0);
        answers("d0 d0 u0 d0", "bound(2)", 1);
    }

    private static void freeUse() {
        sentence("Terms: when there is no such block, the use is free");
        answers("u0", "bound(0)", NONE);
        answers("u0", "free()", bits(0));
        answers("d1 u0", "free()", bits(1));
        answers("( d0 ) u0", "free()", bits(3));
    }

    private static void everyUseBoundAsBefore() {
        sentence("Terms: a change is legal when every use is bound to the same declaration as before");
        refuses("d0 d1 u0", "rename(0, 1)", REFUSED);
        refuses("d0 d1 u0", "rename(1, 0)", REFUSED);
        refuses("d0 u0 d0 u0", "swap(1)", REFUSED);
        refuses("d0 ( d0 ) u0", "moveOut(2)", REFUSED);
        // The same tokens stand there, but the use would be bound to the other declaration.
        refuses("d0 d0 u0", "swap(0)", REFUSED);
        refuses("( d0 d0 u0 )", "moveOut(2)", REFUSED);
        changes("d0 u0 u0", "swap(1)", 1, "d0 u0 u0");
        changes("d0 d0", "swap(0)", 0, "d0 d0");
    }

    private static void theSameUsesFree() {
        sentence("Terms: and exactly the same uses are free");
        refuses("d0 u1", "rename(0, 1)", REFUSED);
        refuses("u0 d0", "swap(0)", REFUSED);
        refuses("d0 u0", "swap(0)", REFUSED);
        refuses("( d0 ) u0", "moveOut(1)", REFUSED);
        refuses("( u0 d0 )", "moveOut(2)", REFUSED);
        changes("u1 d0", "rename(1, 1)", 1, "u1 d1");
        changes("u0 u1", "swap(0)", 0, "u1 u0");
        changes("u0 ( d0 )", "moveOut(2)", 1, "u0 d0 ( )");
    }

    // Promise 1

    private static void emptyProgram() {
        sentence("Promise 1: an empty program");
        for (String call : List.of("length()", "free()", "unused()", "uses(0)", "names(0)", "canMoveOut(0)",
                "visible(0)")) {
            refuses("", call, 0);
        }
        for (String call : List.of("token(0)", "bound(0)", "depth(0)", "rename(0, 0)", "swap(0)", "moveOut(0)",
                "drop()", "add(1, 0)")) {
            refuses("", call, NONE);
        }
        desk(FULL_OF_DECLARATIONS);
        answers("", "length()", 0);
    }

    // Promise 2

    private static void addOfNoKind() {
        sentence("Promise 2: NONE when kind is not 0 .. 3");
        for (int kind : NO_KINDS) {
            refuses("", "add(" + kind + ", 0)", NONE);
            refuses("( d0", "add(" + kind + ", 7)", NONE);
            refuses("(", "add(" + kind + ", -1)", NONE);
        }
        String[] words = {"(", ")", "d5", "u5"};
        for (int kind = 0; kind < 4; kind++) {
            changes("(", "add(" + kind + ", 5)", 1, "( " + words[kind]);
        }
    }

    private static void addOfCloseWithNoBlockOpen() {
        sentence("Promise 2: NONE when it is CLOSE and no block is open");
        for (String text : List.of("", "d0", "( )", "( ( ) )", "( ) ( )", "d0 ( u0 ) u0")) {
            refuses(text, "add(1, 0)", NONE);
            refuses(text, "add(1, 9)", NONE);
        }
        changes("(", "add(1, 0)", 1, "( )");
        changes("( ( )", "add(1, 0)", 3, "( ( ) )");
        changes("( ) (", "add(1, 0)", 3, "( ) ( )");
        changes(repeated("(", 14) + " " + repeated(")", 13), "add(1, 0)", 27,
                repeated("(", 14) + " " + repeated(")", 14));
        afterDrop("(", "add(1, 0)", NONE);
        afterDrop("( ) (", "add(1, 0)", NONE);
        afterDrop("( )", "add(1, 0)", 1);
    }

    private static void addOfNoName(int kind, String word) {
        for (int n : NO_NAMES) {
            refuses("", "add(" + kind + ", " + n + ")", NONE);
            refuses("( d0", "add(" + kind + ", " + n + ")", NONE);
        }
        changes("", "add(" + kind + ", 0)", 0, word + "0");
        changes("", "add(" + kind + ", 7)", 0, word + "7");
    }

    private static void addDeclareOfNoName() {
        sentence("Promise 2: NONE when it is DECLARE and n is not 0 .. 7");
        addOfNoName(2, "d");
    }

    private static void addUseOfNoName() {
        sentence("Promise 2: NONE when it is USE and n is not 0 .. 7");
        addOfNoName(3, "u");
    }

    private static void addOfBlockWithAnyNumber() {
        sentence("Promise 2: n of OPEN and CLOSE may be any int");
        for (int n : NO_NAMES) {
            changes("d0", "add(0, " + n + ")", 1, "d0 (");
            changes("d0 (", "add(1, " + n + ")", 2, "d0 ( )");
        }
    }

    private static void addWhenFull() {
        sentence("Promise 2: FULL when there are 28");
        for (String text : List.of(FULL_OF_USES, FULL_AND_OPEN, repeated("(", 28))) {
            for (int kind = 0; kind < 4; kind++) {
                refuses(text, "add(" + kind + ", 0)", FULL);
                refuses(text, "add(" + kind + ", 7)", FULL);
            }
            refuses(text, "add(0, 9)", FULL);
            refuses(text, "add(1, -1)", FULL);
            afterDrop(text, "add(3, 0)", 27);
        }
        changes(repeated("u0", 26), "add(2, 7)", 26, repeated("u0", 26) + " d7");
        changes(repeated("u0", 27), "add(2, 7)", 27, repeated("u0", 27) + " d7");
        changes(repeated("u0", 27), "add(0, 9)", 27, repeated("u0", 27) + " (");
    }

    private static void fullAgainAndAgain() {
        sentence("Promise 2: FULL at every call when there are 28, and a place again after drop()");
        RenameDesk desk = desk(FULL_AND_OPEN);
        for (int round = 0; round < 40; round++) {
            due(sentence, "add(1, 0) in round " + round, desk.add(1, 0), FULL);
            due(sentence, "drop() in round " + round, desk.drop(), 27);
            due(sentence, "add(2, 0) in round " + round, desk.add(2, 0), 27);
        }
        stands("after all rounds", desk, FULL_AND_OPEN);
    }

    // Promises 3 and 4

    private static void dropOfNothing() {
        sentence("Promise 3: NONE when there is none");
        refuses("", "drop()", NONE);
        afterDrop("d0", "drop()", NONE);
        RenameDesk desk = desk("");
        for (int round = 0; round < 40; round++) {
            due(sentence, "drop() in round " + round, desk.drop(), NONE);
        }
        stands("after all rounds", desk, "");
        due(sentence, "add(2, 0) after all rounds", ask(desk, "add(2, 0)"), 0);
    }

    private static void dropToNothing() {
        sentence("Promise 3: takes the last token away and answers the number left");
        changes("d0", "drop()", 0, "");
        changes("d0 d1", "drop()", 1, "d0");
        changes("d0 u0", "drop()", 1, "d0");
        changes("( )", "drop()", 1, "(");
        changes("( (", "drop()", 1, "(");
        changes(FULL_OF_DECLARATIONS, "drop()", 27, repeated("d0", 27));
        RenameDesk desk = desk(FULL_AND_OPEN);
        for (int left = 27; left >= 0; left--) {
            due(sentence, "drop()", desk.drop(), left);
        }
        stands("after 28 drops", desk, "");
    }

    private static void leastAndGreatestLength() {
        sentence("Promise 4: the number of tokens, from 0 to 28");
        RenameDesk desk = desk("");
        for (int n = 0; n < MOST_TOKENS; n++) {
            due(sentence, "length() of " + n, desk.length(), n);
            desk.add(0, 0);
        }
        due(sentence, "length() of 28", desk.length(), 28);
        desk.add(0, 0);
        due(sentence, "length() after FULL", desk.length(), 28);
    }

    // Promise 5

    private static void tokenAtNoPlace() {
        sentence("Promise 5: NONE when k is no place");
        atNoPlace("token(%d)", NONE, "u7", "d1");
        answers("u7", "token(0)", 31);
        answers(repeated("(", 27) + " u7", "token(27)", 31);
    }

    private static void tokenOfOpenAndClose() {
        sentence("Promise 5: kind + 4 * n, and n is 0 for OPEN and CLOSE");
        answers("d0", "token(0)", 2);
        answers("u0", "token(0)", 3);
        answers("d7", "token(0)", 30);
        answers("u7", "token(0)", 31);
        for (int n : new int[] {0, 1, 7, 8, -1, LEAST, GREATEST}) {
            RenameDesk desk = desk("");
            desk.add(0, n);
            desk.add(1, n);
            due(sentence, "token(0) after add(0, " + n + ")", desk.token(0), 0);
            due(sentence, "token(1) after add(1, " + n + ")", desk.token(1), 1);
        }
        // An OPEN or CLOSE takes nothing over from the token that stood at its place before.
        RenameDesk desk = desk("d0 u7");
        desk.drop();
        desk.add(0, 7);
        due(sentence, "token(1) of an OPEN in place of u7", desk.token(1), 0);
    }

    // Promise 6

    private static void boundOfFreeUse() {
        sentence("Promise 6: NONE when it is free");
        answers("u0", "bound(0)", NONE);
        answers("d1 u0 d0", "bound(1)", NONE);
        answers("( d0 ) u0", "bound(3)", NONE);
        answers("d0 " + repeated("u0", 26) + " u1", "bound(27)", NONE);
    }

    private static void boundWithNoUse() {
        sentence("Promise 6: NONE when there is no use at k");
        answers("d0 d0", "bound(1)", NONE);
        answers("d0 (", "bound(1)", NONE);
        answers("d0 ( )", "bound(2)", NONE);
        answers("d0", "bound(0)", NONE);
    }

    private static void boundAtNoPlace() {
        sentence("Promise 6: NONE when there is no use at k, k being no place");
        atNoPlace("bound(%d)", NONE, "d0", "u0");
        answers("d0 u0", "bound(1)", 0);
        answers(FULL_OF_USES, "bound(27)", 2);
        answers(repeated("d0", 27) + " u0", "bound(27)", 26);
    }

    // Promise 7

    private static void usesOfNoDeclaration() {
        sentence("Promise 7: 0 when there is no declaration at k");
        answers("d0 u0 u0", "uses(1)", 0);
        answers("u0 u0", "uses(0)", 0);
        answers("( u0 )", "uses(0)", 0);
        answers("( ) u0", "uses(1)", 0);
    }

    private static void usesAtNoPlace() {
        sentence("Promise 7: 0 when there is no declaration at k, k being no place");
        atNoPlace("uses(%d)", 0, "d0", "u0 d0");
        atNoPlace("uses(%d)", 0, "u3", "d0 u0");
        answers("d0 u0", "uses(0)", bits(1));
        answers(repeated("u0", 26) + " d0 u0", "uses(26)", bits(27));
    }

    private static void usesNoneAndAll() {
        sentence("Promise 7: the uses that are bound to it, none of them up to 27");
        answers("d0", "uses(0)", 0);
        answers("u0 d0 u1", "uses(1)", 0);
        answers("d0 d0 u0", "uses(0)", 0);
        answers(repeated("u0", 27) + " d0", "uses(27)", 0);
        answers("d0 " + repeated("u0", 27), "uses(0)", bits(28) - 2);
        afterDrop("d0 u0", "uses(0)", 0);
    }

    // Promises 8 and 9

    private static void freeNoneAndAll() {
        sentence("Promise 8: the uses that are free, none of them up to 28");
        answers("", "free()", 0);
        answers("d0 u0 ( )", "free()", 0);
        answers("u0", "free()", bits(0));
        answers("d0 " + repeated("u0", 26) + " u1", "free()", bits(27));
        answers(repeated("u0", 28), "free()", bits(28) - 1);
        afterDrop("u0 u1", "free()", bits(0));
    }

    private static void unusedNoneAndAll() {
        sentence("Promise 9: the declarations to which no use is bound, none of them up to 28");
        answers("", "unused()", 0);
        answers("d0 u0 ( )", "unused()", 0);
        answers("d0", "unused()", bits(0));
        answers("u0 d0", "unused()", bits(1));
        answers("d0 d0 u0", "unused()", bits(0));
        answers("d0 " + repeated("u0", 26) + " d1", "unused()", bits(27));
        answers(FULL_OF_DECLARATIONS, "unused()", bits(28) - 1);
        afterDrop("d0 u0", "unused()", bits(0));
        afterDrop("d0 d1", "unused()", bits(0));
    }

    // Promise 10

    private static void namesOfNoDeclaration() {
        sentence("Promise 10: 0 when there is no declaration at k");
        answers("d0 u0", "names(1)", 0);
        answers("u0", "names(0)", 0);
        answers("( d0 )", "names(0)", 0);
        answers("( d0 )", "names(2)", 0);
    }

    private static void namesAtNoPlace() {
        sentence("Promise 10: 0 when there is no declaration at k, k being no place");
        atNoPlace("names(%d)", 0, "d0", "d0");
        answers("d0", "names(0)", ALL_NAMES);
        answers(repeated("d0", 28), "names(27)", ALL_NAMES);
    }

    private static void namesOwnAlone() {
        sentence("Promise 10: its own name counts too");
        answers("d0 u1 u2 u3 u4 u5 u6 u7", "names(0)", bits(0));
        answers("d7 u0 u1 u2 u3 u4 u5 u6", "names(0)", bits(7));
        answers("d3 u3 u0 u1 u2 u4 u5 u6 u7", "names(0)", bits(3));
    }

    private static void namesLeastAndGreatest() {
        sentence("Promise 10: the names m for which it is legal, from 0 to 7");
        answers("d3 u0", "names(0)", ALL_NAMES & ~bits(0));
        answers("d3 u7", "names(0)", ALL_NAMES & ~bits(7));
        answers("d3 d0 d7 u3", "names(0)", ALL_NAMES & ~bits(0, 7));
        refuses("d3 d0 d7 u3", "names(0)", ALL_NAMES & ~bits(0, 7));
    }

    // Promise 11

    private static void renameToNoName() {
        sentence("Promise 11: NONE when m is not 0 .. 7");
        for (int m : NO_NAMES) {
            refuses("d0 u0 u1", "rename(0, " + m + ")", NONE);
            refuses("d7", "rename(0, " + m + ")", NONE);
        }
        changes("d3 u3", "rename(0, 0)", 2, "d0 u0");
        changes("d3 u3", "rename(0, 7)", 2, "d7 u7");
    }

    private static void renameOfNoDeclaration() {
        sentence("Promise 11: NONE when there is no declaration at k");
        for (int m = 0; m < 8; m++) {
            refuses("d0 ( u0 )", "rename(1, " + m + ")", NONE);
            refuses("d0 ( u0 )", "rename(2, " + m + ")", NONE);
            refuses("d0 ( u0 )", "rename(3, " + m + ")", NONE);
        }
        refuses("u0", "rename(0, 0)", NONE);
    }

    private static void renameAtNoPlace() {
        sentence("Promise 11: NONE when there is no declaration at k, k being no place");
        atNoPlace("rename(%d, 1)", NONE, "d0", "d0");
        atNoPlace("rename(%d, 0)", NONE, "d0", "d0");
        changes(repeated("d0", 28), "rename(27, 1)", 1, repeated("d0", 27) + " d1");
    }

    private static void renameThatIsNotLegal() {
        sentence("Promise 11: REFUSED, changing nothing, when that is not legal");
        refuses("d0 u0 u1", "rename(0, 1)", REFUSED);
        refuses("d0 ( d1 u0 )", "rename(0, 1)", REFUSED);
        refuses("d0 ( d1 u0 )", "rename(2, 0)", REFUSED);
        refuses("d0 d7 u0 u7", "rename(0, 7)", REFUSED);
        refuses("d0 d7 u0 u7", "rename(1, 0)", REFUSED);
        refuses("d0 " + repeated("u0", 26) + " u1", "rename(0, 1)", REFUSED);
    }

    private static void renameNoneAndAll() {
        sentence("Promise 11: answers the number of tokens that have another name now, from 0 to 28");
        refuses("d0 u0 u0", "rename(0, 0)", 0);
        refuses("d7", "rename(0, 7)", 0);
        changes("d0 u1", "rename(0, 2)", 1, "d2 u1");
        changes("d0 " + repeated("u0", 27), "rename(0, 7)", 28, "d7 " + repeated("u7", 27));
        refuses("d0 " + repeated("u0", 27), "rename(0, 0)", 0);
    }

    // Promise 12

    private static void swapWithOpenOrClose() {
        sentence("Promise 12: NONE when one of them is not a DECLARE or USE");
        refuses("d0 (", "swap(0)", NONE);
        refuses("u0 (", "swap(0)", NONE);
        refuses("( d0", "swap(0)", NONE);
        refuses("( u0", "swap(0)", NONE);
        refuses("( d0 )", "swap(1)", NONE);
        refuses("( u0 )", "swap(1)", NONE);
        refuses("( ) d0", "swap(1)", NONE);
        refuses("( ) u0", "swap(1)", NONE);
        refuses("( (", "swap(0)", NONE);
        refuses("( )", "swap(0)", NONE);
        refuses("( ( ) )", "swap(2)", NONE);
        refuses("( ) (", "swap(1)", NONE);
        changes("( u0 u1 )", "swap(1)", 1, "( u1 u0 )");
    }

    private static void swapWithNothingBehind() {
        sentence("Promise 12: NONE when one of them is not there, k being the last place");
        refuses("d0", "swap(0)", NONE);
        refuses("d0 u1", "swap(1)", NONE);
        refuses(FULL_OF_DECLARATIONS, "swap(27)", NONE);
        refuses(FULL_OF_USES, "swap(27)", NONE);
        afterDrop("d0 d1", "swap(0)", NONE);
        afterDrop("d0 u1", "swap(0)", NONE);
        changes("d0 u1", "swap(0)", 0, "u1 d0");
        changes(repeated("d0", 27) + " u1", "swap(26)", 26, repeated("d0", 26) + " u1 d0");
    }

    private static void swapAtNoPlace() {
        sentence("Promise 12: NONE when one of them is not there, k being no place");
        atNoPlace("swap(%d)", NONE, "d0", "d1 u2 d3");
        refuses("d0 d1", "swap(-1)", NONE);
        refuses("u0 u1", "swap(-1)", NONE);
        refuses("d0 d1", "swap(" + GREATEST + ")", NONE);
        refuses("d0 d1", "swap(" + LEAST + ")", NONE);
    }

    private static void swapThatIsNotLegal() {
        sentence("Promise 12: REFUSED, changing nothing, when that is not legal");
        refuses("d0 u0", "swap(0)", REFUSED);
        refuses("u0 d0", "swap(0)", REFUSED);
        refuses("d0 ( u0 d0 )", "swap(2)", REFUSED);
        refuses(repeated("d0", 27) + " u0", "swap(26)", REFUSED);
        refuses(repeated("u0", 27) + " d0", "swap(26)", REFUSED);
    }

    private static void swapOfTheSame() {
        sentence("Promise 12: a declaration or use is the same one at its new place");
        refuses("d0 d0 u0", "swap(0)", REFUSED);
        changes("d0 d0", "swap(0)", 0, "d0 d0");
        changes("u0 u0", "swap(0)", 0, "u0 u0");
        changes("d0 d1 u0 u1", "swap(0)", 0, "d1 d0 u0 u1");
        changes("d0 d1 u0 u1", "swap(2)", 2, "d0 d1 u1 u0");
    }

    // Promise 13

    private static void moveOutOfNoDeclaration() {
        sentence("Promise 13: NONE when there is no declaration at k");
        refuses("( u0 )", "moveOut(1)", NONE);
        refuses("( d0 u0 )", "moveOut(2)", NONE);
        refuses("( ( d0 ) )", "moveOut(1)", NONE);
        refuses("( ( d0 ) )", "moveOut(3)", NONE);
        refuses("(", "moveOut(0)", NONE);
    }

    private static void moveOutAtNoPlace() {
        sentence("Promise 13: NONE when there is no declaration at k, k being no place");
        atNoPlace("moveOut(%d)", NONE, "(", "d0 d1");
        changes("( " + repeated("d0", 27), "moveOut(27)", 0, "d0 ( " + repeated("d0", 26));
    }

    private static void moveOutOfTheOutermostBlock() {
        sentence("Promise 13: NONE when it lies directly in the outermost block");
        refuses("d0", "moveOut(0)", NONE);
        refuses("u0 d0", "moveOut(1)", NONE);
        refuses("( ) d0", "moveOut(2)", NONE);
        refuses("( ( ) ) d0 (", "moveOut(4)", NONE);
        refuses("d0 ( u0 )", "moveOut(0)", NONE);
        refuses(FULL_OF_DECLARATIONS, "moveOut(27)", NONE);
    }

    private static void moveOutToTheOpen() {
        sentence("Promise 13: to the place right before the OPEN of that block, and answers its new place");
        changes("( d0 )", "moveOut(1)", 0, "d0 ( )");
        changes("( ( d0 ) )", "moveOut(2)", 1, "( d0 ( ) )");
        changes("( ( u1 ) d0 u0 )", "moveOut(4)", 0, "d0 ( ( u1 ) u0 )");
        changes("( ( ) ( ) d0 ) d1", "moveOut(5)", 0, "d0 ( ( ) ( ) ) d1");
        changes("u1 ( u2 u3 d0 u0 ) u4", "moveOut(4)", 1, "u1 d0 ( u2 u3 u0 ) u4");
        changes(repeated("(", 27) + " d7", "moveOut(27)", 26, repeated("(", 26) + " d7 (");
        changes("( " + repeated("u1", 26) + " d0", "moveOut(27)", 0, "d0 ( " + repeated("u1", 26));
    }

    private static void moveOutThatIsNotLegal() {
        sentence("Promise 13: REFUSED, changing nothing, when that is not legal");
        refuses("( u0 d0 )", "moveOut(2)", REFUSED);
        refuses("( ( u0 ) d0 )", "moveOut(4)", REFUSED);
        refuses("( d0 ) u0", "moveOut(1)", REFUSED);
        refuses("( d0 d0 u0 )", "moveOut(2)", REFUSED);
        refuses("d0 ( d0 ) u0", "moveOut(2)", REFUSED);
        refuses("( " + repeated("u0", 26) + " d0", "moveOut(27)", REFUSED);
    }

    // Promise 14

    private static void canMoveOutToPlaceZero() {
        sentence("Promise 14: true where moveOut answers a place, 0 too, and nothing is changed");
        refuses("( d0 )", "canMoveOut(1)", 1);
        refuses("( ( d0", "canMoveOut(2)", 1);
        refuses(repeated("(", 27) + " d7", "canMoveOut(27)", 1);
        refuses("u0 ( d0 u0 )", "canMoveOut(2)", 1);
    }

    private static void canMoveOutAtNoPlace() {
        sentence("Promise 14: false where moveOut answers NONE, k being no place");
        atNoPlace("canMoveOut(%d)", 0, "(", "d0 d1");
    }

    private static void canMoveOutOfNothing() {
        sentence("Promise 14: false where moveOut answers NONE");
        refuses("d0", "canMoveOut(0)", 0);
        refuses("( ) d0", "canMoveOut(2)", 0);
        refuses("( u0 )", "canMoveOut(0)", 0);
        refuses("( u0 )", "canMoveOut(1)", 0);
        refuses("( u0 )", "canMoveOut(2)", 0);
        refuses("( d0 u0 )", "canMoveOut(2)", 0);
        refuses("( ( d0 ) )", "canMoveOut(1)", 0);
        refuses("( ( d0 ) )", "canMoveOut(3)", 0);
    }

    private static void canMoveOutThatIsNotLegal() {
        sentence("Promise 14: false where moveOut answers REFUSED");
        refuses("( u0 d0 )", "canMoveOut(2)", 0);
        refuses("( d0 ) u0", "canMoveOut(1)", 0);
        refuses("( d0 d0 u0 )", "canMoveOut(2)", 0);
    }

    // Promise 15

    private static void depthOfOpen() {
        sentence("Promise 15: an OPEN is in the blocks around it only");
        answers("(", "depth(0)", 0);
        answers("( (", "depth(1)", 1);
        answers("( ) (", "depth(2)", 0);
        answers(repeated("(", 28), "depth(27)", 27);
    }

    private static void depthOfClose() {
        sentence("Promise 15: a CLOSE is in the block it closes too");
        answers("( )", "depth(1)", 1);
        answers("( ( ) )", "depth(2)", 2);
        answers("( ( ) )", "depth(3)", 1);
        answers(repeated("(", 27) + " )", "depth(27)", 27);
    }

    private static void depthInTheOutermostBlock() {
        sentence("Promise 15: the number of blocks around place k, the outermost one not counted");
        answers("d0", "depth(0)", 0);
        answers("( ) u0", "depth(2)", 0);
        answers("( u0 )", "depth(1)", 1);
        answers(FULL_OF_DECLARATIONS, "depth(27)", 0);
    }

    private static void depthAtNoPlace() {
        sentence("Promise 15: NONE when k is no place");
        atNoPlace("depth(%d)", NONE, "(", "(");
    }

    // Promise 16

    private static void visibleAtOpen() {
        sentence("Promise 16: the names visible at place k, an OPEN");
        answers("( d0", "visible(0)", 0);
        answers("d1 ( d0 )", "visible(1)", bits(1));
        answers("( d0 ) ( d1", "visible(3)", 0);
        answers("( d0 ( d1", "visible(2)", bits(0));
    }

    private static void visibleAtClose() {
        sentence("Promise 16: the names visible at place k, a CLOSE");
        answers("( d0 )", "visible(2)", bits(0));
        answers("( d1 ( d0 ) )", "visible(4)", bits(0, 1));
        answers("( d1 ( d0 ) )", "visible(5)", bits(1));
        answers("d2 ( )", "visible(2)", bits(2));
    }

    private static void visibleInPlaceOfTheToken() {
        sentence("Promise 16: a use put in place of the token at k, which is then not there");
        answers("d0", "visible(0)", 0);
        answers("d0 d1", "visible(1)", bits(0));
        answers("u0 d0", "visible(0)", 0);
        answers("d1 u0", "visible(1)", bits(1));
    }

    private static void visibleNoneAndAll() {
        sentence("Promise 16: bit n for name n, from 0 to 7");
        answers("d0 u1", "visible(1)", bits(0));
        answers("d7 u1", "visible(1)", bits(7));
        answers("d0 d1 d2 d3 d4 d5 d6 d7 u0", "visible(8)", ALL_NAMES);
        answers(repeated("d0", 26) + " d7 u1", "visible(27)", bits(0, 7));
    }

    private static void visibleAtNoPlace() {
        sentence("Promise 16: 0 when k is no place");
        atNoPlace("visible(%d)", 0, "d0", "d1");
    }

    // Promise 17

    private static void noneBeforeFull() {
        sentence("Promise 17: add: NONE is tested before FULL");
        refuses(FULL_OF_DECLARATIONS, "add(1, 0)", NONE);
        refuses(repeated("( )", 14), "add(1, 0)", NONE);
        for (int kind : NO_KINDS) {
            refuses(FULL_AND_OPEN, "add(" + kind + ", 0)", NONE);
        }
        for (int n : NO_NAMES) {
            refuses(FULL_AND_OPEN, "add(2, " + n + ")", NONE);
            refuses(FULL_AND_OPEN, "add(3, " + n + ")", NONE);
        }
        refuses(FULL_AND_OPEN, "add(1, 0)", FULL);
    }

    private static void noneBeforeRefusedInRename() {
        sentence("Promise 17: rename: NONE is tested before REFUSED");
        // The use alone could not be renamed to 1 or 2 either, and no name could be given to d0 but its own.
        refuses("d0 d1 u0", "rename(2, 1)", NONE);
        refuses("d0 u0", "rename(1, 2)", NONE);
        refuses("d0 u1 u2 u3 u4 u5 u6 u7", "rename(0, 8)", NONE);
        refuses("d0 u1 u2 u3 u4 u5 u6 u7", "rename(0, 9)", NONE);
        refuses("d0 u1 u2 u3 u4 u5 u6 u7", "rename(0, -1)", NONE);
        refuses("d0 u1 u2 u3 u4 u5 u6 u7", "rename(0, 1)", REFUSED);
    }

    private static void noneBeforeRefusedInSwap() {
        sentence("Promise 17: swap: NONE is tested before REFUSED");
        // Each exchange would free or catch a use.
        refuses("( d0 ) u0", "swap(0)", NONE);
        refuses("( d0 ) u0", "swap(1)", NONE);
        refuses("d0 ( ) u0", "swap(0)", NONE);
        refuses("( ) d0 u0 (", "swap(3)", NONE);
        refuses("( d0 u0 )", "swap(2)", NONE);
        refuses("( d0 u0 )", "swap(1)", REFUSED);
    }

    private static void noneBeforeRefusedInMoveOut() {
        sentence("Promise 17: moveOut: NONE is tested before REFUSED");
        // Each move to the OPEN, or to the beginning, would free or catch a use.
        refuses("( d0 u0 )", "moveOut(2)", NONE);
        refuses("u0 d0", "moveOut(1)", NONE);
        refuses("( u0 ) d0", "moveOut(3)", NONE);
        refuses("( u0 d0 )", "moveOut(2)", REFUSED);
    }

    private static void oneRefusedAfterTheOther() {
        sentence("Promise 17: a call that is refused changes nothing");
        String text = "d0 u0 ( u1 d1 ( d2 u2 ) u2 ) u5 " + repeated("(", 16);
        RenameDesk desk = desk(text);
        String[] calls = {"add(4, 0)", "add(2, 8)", "add(3, -1)", "add(0, 0)", "add(1, 0)", "add(2, 0)", "add(3, 7)",
            "rename(0, 5)", "rename(0, 8)", "rename(1, 3)", "rename(28, 3)", "rename(-1, 3)", "swap(0)", "swap(1)",
            "swap(27)", "swap(-1)", "swap(3)", "moveOut(4)", "moveOut(6)", "moveOut(0)", "moveOut(28)", "moveOut(-1)"};
        int[] wants = {NONE, NONE, NONE, FULL, FULL, FULL, FULL,
            REFUSED, NONE, NONE, NONE, NONE, REFUSED, NONE,
            NONE, NONE, REFUSED, REFUSED, REFUSED, NONE, NONE, NONE};
        for (int i = 0; i < calls.length; i++) {
            due(sentence, calls[i], ask(desk, calls[i]), wants[i]);
        }
        stands("after all of them", desk, text);
    }

    private static void theLastOf512Calls() {
        sentence("What it is: an object is used for at most 512 calls");
        RenameDesk desk = desk("( d0 u0 )");
        for (int call = 5; call < 512; call++) {
            due(sentence, "rename(1, " + call % 8 + ") as call " + call, desk.rename(1, call % 8), 2);
        }
        due(sentence, "moveOut(1) as call 512", desk.moveOut(1), 0);
    }

    private static void terms() {
        blocksThatAreNotClosed();
        inNoBlock();
        declarationBeforeTheUse();
        lastOfTheInnermostBlock();
        freeUse();
        everyUseBoundAsBefore();
        theSameUsesFree();
    }

    private static void buildingAndTokens() {
        emptyProgram();
        addOfNoKind();
        addOfCloseWithNoBlockOpen();
        addDeclareOfNoName();
        addUseOfNoName();
        addOfBlockWithAnyNumber();
        addWhenFull();
        fullAgainAndAgain();
        dropOfNothing();
        dropToNothing();
        leastAndGreatestLength();
        tokenAtNoPlace();
        tokenOfOpenAndClose();
    }

    private static void bindings() {
        boundOfFreeUse();
        boundWithNoUse();
        boundAtNoPlace();
        usesOfNoDeclaration();
        usesAtNoPlace();
        usesNoneAndAll();
        freeNoneAndAll();
        unusedNoneAndAll();
    }

    private static void renaming() {
        namesOfNoDeclaration();
        namesAtNoPlace();
        namesOwnAlone();
        namesLeastAndGreatest();
        renameToNoName();
        renameOfNoDeclaration();
        renameAtNoPlace();
        renameThatIsNotLegal();
        renameNoneAndAll();
    }

    private static void moving() {
        swapWithOpenOrClose();
        swapWithNothingBehind();
        swapAtNoPlace();
        swapThatIsNotLegal();
        swapOfTheSame();
        moveOutOfNoDeclaration();
        moveOutAtNoPlace();
        moveOutOfTheOutermostBlock();
        moveOutToTheOpen();
        moveOutThatIsNotLegal();
        canMoveOutToPlaceZero();
        canMoveOutAtNoPlace();
        canMoveOutOfNothing();
        canMoveOutThatIsNotLegal();
    }

    private static void places() {
        depthOfOpen();
        depthOfClose();
        depthInTheOutermostBlock();
        depthAtNoPlace();
        visibleAtOpen();
        visibleAtClose();
        visibleInPlaceOfTheToken();
        visibleNoneAndAll();
        visibleAtNoPlace();
    }

    private static void orderAndLimits() {
        noneBeforeFull();
        noneBeforeRefusedInRename();
        noneBeforeRefusedInSwap();
        noneBeforeRefusedInMoveOut();
        oneRefusedAfterTheOther();
        theLastOf512Calls();
    }

    public static void main(String[] args) {
        terms();
        buildingAndTokens();
        bindings();
        renaming();
        moving();
        places();
        orderAndLimits();
        end();
    }
}
