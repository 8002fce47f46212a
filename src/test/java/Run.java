import java.util.ArrayList;
import java.util.List;

/**
 * One object of the class, kept to the 512 calls that the document promises anything of. The calls that change it are
 * written down; when readings have used the calls up, they are done again on a new object, which has to answer the same.
 */
final class Run {
    static final int CALLS_MOST = 512;

    private enum Call { FEED, PUT, STAGE, CLEAR, SWAP }

    private record Change(Call call, int[] with, int answer) { }

    private final List<Change> changes = new ArrayList<>();
    private PipelineBelt object = new PipelineBelt();
    private int calls;

    int feed(int a, int b, int c, int d, int e) {
        return change(Call.FEED, a, b, c, d, e);
    }

    int put(int belt, int n) {
        return change(Call.PUT, belt, n);
    }

    int stage(int n) {
        return change(Call.STAGE, n);
    }

    int clear(int belt) {
        return change(Call.CLEAR, belt);
    }

    void swap() {
        change(Call.SWAP);
    }

    int many(int belt, int what) {
        countReading();
        return object.many(belt, what);
    }

    int size(int belt, int k) {
        countReading();
        return object.size(belt, k);
    }

    int byteAt(int belt, int k, int i) {
        countReading();
        return object.byteAt(belt, k, i);
    }

    /** How many changing calls have been made. */
    int changes() {
        return changes.size();
    }

    private int change(Call call, int... with) {
        if (changes.size() == CALLS_MOST) {
            throw new IllegalStateException("the test goes beyond " + CALLS_MOST + " calls");
        }
        if (calls == CALLS_MOST) {
            renew();
        }
        calls++;
        int answer = done(object, call, with);
        changes.add(new Change(call, with, answer));
        return answer;
    }

    private void countReading() {
        if (calls == CALLS_MOST) {
            renew();
        }
        calls++;
    }

    private void renew() {
        if (changes.size() == CALLS_MOST) {
            throw new IllegalStateException("the test goes beyond " + CALLS_MOST + " calls");
        }
        object = new PipelineBelt();
        for (Change c : changes) {
            int answer = done(object, c.call(), c.with());
            if (answer != c.answer()) {
                throw new IllegalStateException(c.call() + " answered " + c.answer() + ", and " + answer + " the next time");
            }
        }
        calls = changes.size();
    }

    private static int done(PipelineBelt x, Call call, int[] with) {
        switch (call) {
            case FEED: return x.feed(with[0], with[1], with[2], with[3], with[4]);
            case PUT: return x.put(with[0], with[1]);
            case STAGE: return x.stage(with[0]);
            case CLEAR: return x.clear(with[0]);
            default:
                x.swap();
                return 0;
        }
    }
}
