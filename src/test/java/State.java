import java.util.HexFormat;
import java.util.function.Supplier;

/** All that can be seen of an object; it is made anew as often as is needed to stay within its calls. */
final class State {
    private final Supplier<PackShelf> maker;
    private final StringBuilder seen = new StringBuilder();

    private State(Supplier<PackShelf> maker) {
        this.maker = maker;
    }

    static String of(Supplier<PackShelf> maker) {
        State state = new State(maker);
        state.lookAtStore();
        state.lookAtBranches();
        state.lookAtPack();
        state.lookAtTyped();
        state.lookAtDraft();
        return state.seen.toString();
    }

    private void lookAtStore() {
        int n = maker.get().things();
        seen.append("things ").append(n);
        for (int i = 0; i < n; i++) {
            PackShelf x = maker.get();
            seen.append(" | ").append(x.kind(i)).append(' ').append(hex(PackTool.nameOf(x, i)))
                    .append(x.reached(i) ? " reached " : " alone ").append(hex(PackTool.contentOf(x, i)));
        }
    }

    private void lookAtBranches() {
        PackShelf x = maker.get();
        seen.append(" | branches");
        for (int b = 0; b < 4; b++) {
            seen.append(' ').append(x.held(b));
        }
    }

    private void lookAtPack() {
        seen.append(" | pack ").append(hex(PackTool.packOf(maker)));
    }

    /** A store that is swept empty has room for a blob of what is typed. */
    private void lookAtTyped() {
        PackShelf x = maker.get();
        for (int b = 0; b < 4; b++) {
            x.branch(b, -1);
        }
        x.sweep();
        seen.append(" | typed ").append(hex(PackTool.contentOf(x, x.blob())));
    }

    private void lookAtDraft() {
        seen.append(" | draft");
        int thing = someBlobOrTree();
        for (int letter = 0; letter < 26 && thing >= 0; letter++) {
            seen.append(' ').append(maker.get().entry(letter, thing));
        }
        PackShelf x = maker.get();
        int tree = x.tree();
        seen.append(" | tree ").append(tree).append(' ').append(hex(PackTool.contentOf(x, tree)));
    }

    private int someBlobOrTree() {
        PackShelf x = maker.get();
        for (int i = 0; i < x.things(); i++) {
            if (x.kind(i) > 1) {
                return i;
            }
        }
        return -1;
    }

    private static String hex(byte[] row) {
        return HexFormat.of().formatHex(row);
    }
}
