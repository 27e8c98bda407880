/** A call of an object, and what it answers. */
interface Call {
    int of(SometimesSums x);
}
