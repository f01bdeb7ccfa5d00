import java.util.ArrayList;

/**
 * A DesignReader as the tests use it. The document promises nothing of an object after its 512th
 * call: before that, the calls that may have changed something are made on a new object, which
 * must answer them alike and takes the old one's place.
 */
final class Subject {
    private static final int MOST_CALLS = 512;
    private static final int FEED = 0;
    private static final int READ = 1;
    private static final int WRITE = 2;
    private static final int AGAIN = 3;

    private final ArrayList<int[]> changes = new ArrayList<>();
    private final ArrayList<Integer> answers = new ArrayList<>();
    private final int mostCalls;
    private DesignReader reader = new DesignReader();
    private int calls;

    Subject() {
        this(MOST_CALLS);
    }

    private Subject(int mostCalls) {
        this.mostCalls = mostCalls;
    }

    /** One object for all calls: of its answers nothing is promised, but that they come. */
    static Subject withoutEnd() {
        return new Subject(Integer.MAX_VALUE);
    }

    /** How many calls were made that may have changed something. */
    int changes() {
        return changes.size();
    }

    int feed(int a, int b, int c, int d, int e) {
        return change(FEED, a, b, c, d, e);
    }

    int read(int tree, int n) {
        return change(READ, tree, n);
    }

    int write(int tree, int k) {
        return change(WRITE, tree, k);
    }

    int again() {
        return change(AGAIN);
    }

    int nodes(int tree) {
        return fresh().nodes(tree);
    }

    int node(int tree, int k, int what) {
        return fresh().node(tree, k, what);
    }

    int part(int tree, int k, int i) {
        return fresh().part(tree, k, i);
    }

    int whole(int tree, int k) {
        return fresh().whole(tree, k);
    }

    int names() {
        return fresh().names();
    }

    int spelt(int name, int i) {
        return fresh().spelt(name, i);
    }

    int written(int i) {
        return fresh().written(i);
    }

    boolean same() {
        return fresh().same();
    }

    private int change(int... call) {
        int answer = make(fresh(), call);
        changes.add(call);
        answers.add(answer);
        return answer;
    }

    /** The object for one call more. */
    private DesignReader fresh() {
        if (calls == mostCalls) {
            if (changes.size() >= mostCalls) {
                throw new IllegalStateException("a test needs more than 512 calls on one object");
            }
            reader = new DesignReader();
            for (int i = 0; i < changes.size(); i++) {
                Check.due("the same call once more", make(reader, changes.get(i)), answers.get(i));
            }
            calls = changes.size();
        }
        calls++;
        return reader;
    }

    private static int make(DesignReader on, int[] call) {
        switch (call[0]) {
            case FEED: return on.feed(call[1], call[2], call[3], call[4], call[5]);
            case READ: return on.read(call[1], call[2]);
            case WRITE: return on.write(call[1], call[2]);
            default: return on.again();
        }
    }
}
