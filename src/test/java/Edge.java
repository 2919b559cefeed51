import java.util.function.Consumer;
import java.util.function.Supplier;
import java.util.function.ToIntFunction;

/** A scene, made anew for every call that is tried in it; what other calls show afterwards is looked at each time. */
final class Edge {
    private final Due due;
    private final String title;
    private final Consumer<Tree> scene;
    private final String untouched;

    Edge(Due due, String title, Consumer<Tree> scene) {
        this.due = due;
        this.title = title;
        this.scene = scene;
        untouched = Observer.all(() -> after(new RealTree(), tree -> 0));
        due.same(title + ": what is seen of it", untouched, Observer.all(() -> after(new Model(), tree -> 0)));
    }

    /** The answer is the one that is due, and nothing has changed. */
    void keeps(int want, ToIntFunction<Tree> call) {
        String name = answers(want, call);
        due.same(name + ": what is seen then", Observer.all(() -> after(new RealTree(), call)), untouched);
    }

    /** The answer is the one that is due, and all has changed as in the model. Answers the object, to be asked more. */
    RealTree changes(int want, ToIntFunction<Tree> call) {
        String name = answers(want, call);
        Supplier<RealTree> real = () -> after(new RealTree(), call);
        due.same(name + ": what is seen then", Observer.all(real), Observer.all(() -> after(new Model(), call)));
        return real.get();
    }

    /** The answer is that of the model; so is what is seen then, which for a refused call is what was seen before. */
    void likeTheModel(ToIntFunction<Tree> call) {
        int want = call.applyAsInt(after(new Model(), tree -> 0));
        if (want < 0) {
            keeps(want, call);
        } else {
            changes(want, call);
        }
    }

    private String answers(int want, ToIntFunction<Tree> call) {
        RealTree real = after(new RealTree(), tree -> 0);
        int got = call.applyAsInt(real);
        String name = title + ": " + real.last();
        due.is(name, got, want);
        due.is(name + " in the model", call.applyAsInt(after(new Model(), tree -> 0)), want);
        return name;
    }

    private <T extends Tree> T after(T tree, ToIntFunction<Tree> call) {
        scene.accept(tree);
        call.applyAsInt(tree);
        return tree;
    }
}
