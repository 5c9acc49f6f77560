import java.util.ArrayList;
import java.util.List;

/**
 * Compares RenameDesk with a second program that follows the document's terms word by word:
 * on every program of up to six tokens over two names, and on long mixed runs.
 */
public final class ModelTest {
    private static final int NONE = -1;
    private static final int FULL = -2;
    private static final int REFUSED = -3;
    private static final int OPEN = 0;
    private static final int CLOSE = 1;
    private static final int DECLARE = 2;
    private static final int USE = 3;

    private static int wrong = 0;
    private static long compared = 0;

    /** A block knows the one around it; the outermost one has none. */
    private static final class Block {
        final Block around;
        final Token opening;

        Block(Block around, Token opening) {
            this.around = around;
            this.opening = opening;
        }
    }

    /** The object is the token's identity: it stays the same one at another place or with another name. */
    private static final class Token {
        final int kind;
        int name;
        Block block;

        Token(int kind, int name) {
            this.kind = kind;
            this.name = name;
        }
    }

    private static final class Model {
        List<Token> tokens = new ArrayList<>();

        private Block findBlocks() {
            Block here = new Block(null, null);
            for (Token token : tokens) {
                token.block = here;
                if (token.kind == OPEN) {
                    here = new Block(here, token);
                } else if (token.kind == CLOSE && here.around != null) {
                    here = here.around;
                }
            }
            return here;
        }

        private Token declarationFor(int u) {
            Token use = tokens.get(u);
            for (Block block = use.block; block != null; block = block.around) {
                Token last = null;
                for (Token token : tokens.subList(0, u)) {
                    if (token.kind == DECLARE && token.name == use.name && token.block == block) {
                        last = token;
                    }
                }
                if (last != null) {
                    return last;
                }
            }
            return null;
        }

        /** What each of the given uses is bound to, in their order; null for a free one. */
        private List<Token> bindings(List<Token> uses) {
            findBlocks();
            List<Token> found = new ArrayList<>();
            for (Token use : uses) {
                found.add(declarationFor(tokens.indexOf(use)));
            }
            return found;
        }

        private List<Token> allUses() {
            List<Token> uses = new ArrayList<>();
            for (Token token : tokens) {
                if (token.kind == USE) {
                    uses.add(token);
                }
            }
            return uses;
        }

        private boolean is(int k, int kind) {
            return k >= 0 && k < tokens.size() && tokens.get(k).kind == kind;
        }

        int add(int kind, int n) {
            if (kind < 0 || kind > 3) {
                return NONE;
            }
            if (kind == CLOSE && findBlocks().around == null) {
                return NONE;
            }
            if (kind >= DECLARE && (n < 0 || n > 7)) {
                return NONE;
            }
            if (tokens.size() == 28) {
                return FULL;
            }
            tokens.add(new Token(kind, kind >= DECLARE ? n : 0));
            return tokens.size() - 1;
        }

        int drop() {
            if (tokens.isEmpty()) {
                return NONE;
            }
            tokens.remove(tokens.size() - 1);
            return tokens.size();
        }

        int token(int k) {
            return k < 0 || k >= tokens.size() ? NONE : tokens.get(k).kind + 4 * tokens.get(k).name;
        }

        int bound(int k) {
            findBlocks();
            return is(k, USE) ? tokens.indexOf(declarationFor(k)) : NONE;
        }

        int uses(int k) {
            int set = 0;
            for (int u = 0; is(k, DECLARE) && u < tokens.size(); u++) {
                set |= is(u, USE) && bound(u) == k ? 1 << u : 0;
            }
            return set;
        }

        int free() {
            int set = 0;
            for (int u = 0; u < tokens.size(); u++) {
                set |= is(u, USE) && bound(u) == NONE ? 1 << u : 0;
            }
            return set;
        }

        int unused() {
            int set = 0;
            for (int k = 0; k < tokens.size(); k++) {
                set |= is(k, DECLARE) && uses(k) == 0 ? 1 << k : 0;
            }
            return set;
        }

        int names(int k) {
            int set = 0;
            for (int m = 0; m < 8; m++) {
                Model copy = copy();
                set |= copy.rename(k, m) >= 0 ? 1 << m : 0;
            }
            return set;
        }

        int rename(int k, int m) {
            if (!is(k, DECLARE) || m < 0 || m > 7) {
                return NONE;
            }
            List<Token> uses = allUses();
            List<Token> before = bindings(uses);
            List<Token> renamed = new ArrayList<>(List.of(tokens.get(k)));
            for (int i = 0; i < uses.size(); i++) {
                if (before.get(i) == tokens.get(k)) {
                    renamed.add(uses.get(i));
                }
            }
            int old = tokens.get(k).name;
            renamed.forEach(token -> token.name = m);
            if (!bindings(uses).equals(before)) {
                renamed.forEach(token -> token.name = old);
                return REFUSED;
            }
            return old == m ? 0 : renamed.size();
        }

        private int arrange(List<Token> arranged, int answer) {
            List<Token> uses = allUses();
            List<Token> before = bindings(uses);
            List<Token> old = tokens;
            tokens = arranged;
            if (!bindings(uses).equals(before)) {
                tokens = old;
                return REFUSED;
            }
            return answer;
        }

        int swap(int k) {
            if (k == Integer.MAX_VALUE || !(is(k, DECLARE) || is(k, USE)) || !(is(k + 1, DECLARE) || is(k + 1, USE))) {
                return NONE;
            }
            List<Token> arranged = new ArrayList<>(tokens);
            arranged.set(k, tokens.get(k + 1));
            arranged.set(k + 1, tokens.get(k));
            return arrange(arranged, k);
        }

        int moveOut(int k) {
            findBlocks();
            if (!is(k, DECLARE) || tokens.get(k).block.around == null) {
                return NONE;
            }
            Token moved = tokens.get(k);
            int place = tokens.indexOf(moved.block.opening);
            List<Token> arranged = new ArrayList<>(tokens);
            arranged.remove(k);
            arranged.add(place, moved);
            return arrange(arranged, place);
        }

        int depth(int k) {
            if (k < 0 || k >= tokens.size()) {
                return NONE;
            }
            findBlocks();
            int depth = 0;
            for (Block block = tokens.get(k).block; block.around != null; block = block.around) {
                depth++;
            }
            return depth;
        }

        int visible(int k) {
            int set = 0;
            for (int n = 0; n < 8 && k >= 0 && k < tokens.size(); n++) {
                Model copy = copy();
                copy.tokens.set(k, new Token(USE, n));
                set |= copy.bound(k) != NONE ? 1 << n : 0;
            }
            return set;
        }

        Model copy() {
            Model copy = new Model();
            for (Token token : tokens) {
                copy.tokens.add(new Token(token.kind, token.name));
            }
            return copy;
        }

        String text() {
            StringBuilder text = new StringBuilder();
            for (Token token : tokens) {
                text.append(" ").append("()du".charAt(token.kind)).append(token.kind >= DECLARE ? "" + token.name : "");
            }
            return "\"" + text.toString().trim() + "\"";
        }
    }

    private static void same(String call, String where, int got, int want) {
        compared++;
        if (got != want) {
            wrong++;
            if (wrong <= 40) {
                System.out.println(call + " answered " + got + ", due is " + want + ", in " + where);
            }
        }
    }

    /** Every question, at every place and a little beside: at most 7 * 32 + 3 calls. */
    private static void compareAnswers(RenameDesk desk, Model model) {
        String where = model.text();
        same("length()", where, desk.length(), model.tokens.size());
        same("free()", where, desk.free(), model.free());
        same("unused()", where, desk.unused(), model.unused());
        for (int k = -2; k < model.tokens.size() + 2; k++) {
            String at = "(" + k + ")";
            same("token" + at, where, desk.token(k), model.token(k));
            same("bound" + at, where, desk.bound(k), model.bound(k));
            same("uses" + at, where, desk.uses(k), model.uses(k));
            same("names" + at, where, desk.names(k), model.names(k));
            same("depth" + at, where, desk.depth(k), model.depth(k));
            same("visible" + at, where, desk.visible(k), model.visible(k));
            same("canMoveOut" + at, where, desk.canMoveOut(k) ? 1 : 0, model.copy().moveOut(k) >= 0 ? 1 : 0);
        }
    }

    private static void compareTokens(String call, String where, RenameDesk desk, Model model) {
        same("length() after " + call, where, desk.length(), model.tokens.size());
        for (int k = 0; k < model.tokens.size(); k++) {
            same("token(" + k + ") after " + call, where, desk.token(k), model.token(k));
        }
    }

    private static RenameDesk deskOf(Model model) {
        RenameDesk desk = new RenameDesk();
        for (int k = 0; k < model.tokens.size(); k++) {
            same("add", model.text(), desk.add(model.tokens.get(k).kind, model.tokens.get(k).name), k);
        }
        return desk;
    }

    /** Each change on an object of its own, so that one answer says nothing about another. */
    private static void compareChanges(Model model) {
        String where = model.text();
        for (int k = -1; k <= model.tokens.size(); k++) {
            for (int m = 0; m < 3; m++) {
                RenameDesk desk = deskOf(model);
                Model changed = model.copy();
                String call = "rename(" + k + ", " + m + ")";
                same(call, where, desk.rename(k, m), changed.rename(k, m));
                compareTokens(call, where, desk, changed);
            }
            RenameDesk swapped = deskOf(model);
            Model swappedModel = model.copy();
            same("swap(" + k + ")", where, swapped.swap(k), swappedModel.swap(k));
            compareTokens("swap(" + k + ")", where, swapped, swappedModel);
            RenameDesk moved = deskOf(model);
            Model movedModel = model.copy();
            same("moveOut(" + k + ")", where, moved.moveOut(k), movedModel.moveOut(k));
            compareTokens("moveOut(" + k + ")", where, moved, movedModel);
        }
    }

    private static void everySmallProgram(int tokens) {
        int programs = 1;
        for (int i = 0; i < tokens; i++) {
            programs *= 6;
        }
        for (int number = 0; number < programs; number++) {
            Model model = new Model();
            int rest = number;
            for (int i = 0; i < tokens; i++) {
                int digit = rest % 6;
                rest /= 6;
                model.add(digit < 2 ? digit : 2 + digit % 2, digit < 4 ? 0 : 1);
            }
            // A CLOSE without a block was not taken: that program has been seen among the shorter ones.
            if (model.tokens.size() == tokens) {
                compareAnswers(deskOf(model), model);
                compareChanges(model);
            }
        }
    }

    /** A row of numbers that is the same at every run of the test. */
    private static final class Numbers {
        private long state;

        Numbers(long seed) {
            state = seed * 2862933555777941757L + 3037000493L;
        }

        int below(int bound) {
            state = state * 6364136223846793005L + 1442695040888963407L;
            return (int) ((state >>> 33) % bound);
        }
    }

    private static void addOne(RenameDesk desk, Model model, Numbers numbers, int names) {
        int kind = numbers.below(40) == 0 ? numbers.below(9) - 2 : numbers.below(8) < 5 ? 2 + numbers.below(2) : numbers.below(2);
        int n = numbers.below(40) == 0 ? numbers.below(20) - 6 : numbers.below(names);
        String where = model.text();
        same("add(" + kind + ", " + n + ")", where, desk.add(kind, n), model.add(kind, n));
    }

    private static void changeOne(RenameDesk desk, Model model, Numbers numbers, int names) {
        int k = numbers.below(model.tokens.size() + 2) - 1;
        int m = numbers.below(30) == 0 ? numbers.below(20) - 6 : numbers.below(names);
        String where = model.text();
        switch (numbers.below(8)) {
            case 0 -> same("drop()", where, desk.drop(), model.drop());
            case 1, 2 -> addOne(desk, model, numbers, names);
            case 3, 4 -> same("rename(" + k + ", " + m + ")", where, desk.rename(k, m), model.rename(k, m));
            case 5, 6 -> same("swap(" + k + ")", where, desk.swap(k), model.swap(k));
            default -> same("moveOut(" + k + ")", where, desk.moveOut(k), model.moveOut(k));
        }
    }

    /** At most 30 + 230 changes and then the questions, so that no object sees more than 512 calls. */
    private static void mixedRun(int seed) {
        Numbers numbers = new Numbers(seed);
        RenameDesk desk = new RenameDesk();
        Model model = new Model();
        int names = 1 + numbers.below(8);
        int adds = numbers.below(31);
        int changes = numbers.below(231);
        for (int i = 0; i < adds; i++) {
            addOne(desk, model, numbers, names);
        }
        for (int i = 0; i < changes; i++) {
            changeOne(desk, model, numbers, names);
        }
        compareAnswers(desk, model);
    }

    public static void main(String[] args) {
        for (int tokens = 0; tokens <= 6; tokens++) {
            everySmallProgram(tokens);
        }
        for (int seed = 0; seed < 3000; seed++) {
            mixedRun(seed);
        }
        System.out.println(compared + " answers compared, " + wrong + " not as due");
        if (wrong != 0) {
            System.exit(1);
        }
    }
}
