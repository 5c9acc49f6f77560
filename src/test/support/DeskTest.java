/** What the tests share: programs and calls as text, and the count of the answers that are not as due. */
abstract class DeskTest {
    static final int NONE = -1;
    static final int FULL = -2;
    static final int REFUSED = -3;
    static final int MOST_TOKENS = 28;

    private static int wrong = 0;

    static void due(String about, String what, Object got, Object want) {
        if (!got.equals(want)) {
            wrong++;
            System.out.println(about + ": " + what + " answered " + got + ", due is " + want);
        }
    }

    /** A new object with the given program: "(" and ")" for a block, "d3" and "u3" for a name. */
    static RenameDesk desk(String text) {
        RenameDesk desk = new RenameDesk();
        int place = 0;
        for (String word : words(text)) {
            due("building \"" + text + "\"", "add of " + word, desk.add(kindOf(word), nameOf(word)), place);
            place++;
        }
        return desk;
    }

    static String[] words(String text) {
        return text.isEmpty() ? new String[0] : text.split(" +");
    }

    static int kindOf(String word) {
        return "()du".indexOf(word.charAt(0));
    }

    static int nameOf(String word) {
        return word.length() == 1 ? 0 : word.charAt(1) - '0';
    }

    /** The object's program as such a text; a token that no program has is told by its number. */
    static String program(RenameDesk desk) {
        StringBuilder text = new StringBuilder();
        for (int k = 0; k < desk.length(); k++) {
            text.append(k == 0 ? "" : " ").append(wordOf(desk.token(k)));
        }
        return text.toString();
    }

    private static String wordOf(int token) {
        if (token == 0 || token == 1) {
            return token == 0 ? "(" : ")";
        }
        boolean labelled = token >= 0 && token < 32 && token % 4 >= 2;
        return labelled ? (token % 4 == 2 ? "d" : "u") + token / 4 : "<" + token + ">";
    }

    /** What the object answers to a call given as text, such as "rename(0, 1)"; a boolean counts 1 or 0. */
    static int ask(RenameDesk desk, String call) {
        try {
            return answer(desk, call);
        } catch (RuntimeException thrown) {
            due("no call may ever throw", call, thrown, "an answer");
            return Integer.MIN_VALUE;
        }
    }

    private static int answer(RenameDesk desk, String call) {
        String[] parts = call.split("[(), ]+");
        int first = parts.length > 1 ? Integer.parseInt(parts[1]) : 0;
        int second = parts.length > 2 ? Integer.parseInt(parts[2]) : 0;
        return switch (parts[0]) {
            case "add" -> desk.add(first, second);
            case "drop" -> desk.drop();
            case "length" -> desk.length();
            case "token" -> desk.token(first);
            case "bound" -> desk.bound(first);
            case "uses" -> desk.uses(first);
            case "free" -> desk.free();
            case "unused" -> desk.unused();
            case "names" -> desk.names(first);
            case "rename" -> desk.rename(first, second);
            case "swap" -> desk.swap(first);
            case "moveOut" -> desk.moveOut(first);
            case "canMoveOut" -> desk.canMoveOut(first) ? 1 : 0;
            case "depth" -> desk.depth(first);
            case "visible" -> desk.visible(first);
            default -> throw new IllegalArgumentException(call);
        };
    }

    static int bits(int... places) {
        int set = 0;
        for (int place : places) {
            set |= 1 << place;
        }
        return set;
    }

    static String repeated(String word, int times) {
        return (word + " ").repeat(times).trim();
    }

    static void end() {
        System.out.println(wrong == 0 ? "all answers are as due" : wrong + " answers are not as due");
        if (wrong != 0) {
            System.exit(1);
        }
    }
}
