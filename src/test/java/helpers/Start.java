/** Makes an object that stands ready for a test; each time the same. */
interface Start {
    SometimesSums make();
}
